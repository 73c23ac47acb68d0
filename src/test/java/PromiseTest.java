/** Each promise of the document: ordinary calls, the edges that it names, and what it refuses. */
public final class PromiseTest {
    private static final int NONE = -1, UNKNOWN = -2, OUTSIDE = -3, NOT = -4, FULL = -5;
    private static final int LEAST = Integer.MIN_VALUE, MOST = Integer.MAX_VALUE;

    private static final Checks CHECKS = new Checks("PromiseTest");

    public static void main(String[] args) {
        newObject();
        unit();
        broken();
        length();
        leave();
        stay();
        clean();
        cleanByChoice();
        parking();
        narrow();
        why();
        park();
        clear();
        at();
        shunts();
        shuntsWithoutRoom();
        step();
        stepInOrder();
        leaves();
        brokenInTheYard();
        ready();
        ends();
        best();
        late();
        count();
        objectsAreApart();
        CHECKS.end();
    }

    private static void due(String call, int got, int want) {
        CHECKS.due(call, got, want);
    }

    private static void newObject() {
        DepotNight x = new DepotNight();
        for (int what = 0; what < 4; what++) {
            due("new: count(" + what + ")", x.count(what), 0);
        }
        due("new: clean()", x.clean(), 1);
        due("new: why()", x.why(), 0);
        due("new: narrow()", x.narrow(), 0);
        due("new: shunts()", x.shunts(), 0);
        due("new: step(0)", x.step(0), NONE);
        due("new: leaves(0)", x.leaves(0), NONE);
        due("new: late(0, 0)", x.late(0, 0), 0);
        due("new: ends()", x.ends(), 0);
        due("new: at(0, 0)", x.at(0, 0), NONE);
        for (int track = 0; track < 3; track++) {
            due("new: length(" + track + ", 5)", x.length(track, 5), 5);
        }
    }

    private static void unit() {
        DepotNight x = new DepotNight();
        int[][] wrong = {
            {-1, 0, 0}, {4, 0, 0}, {0, -1, 0}, {0, 61, 0}, {0, 0, -1}, {0, 0, 61},
            {LEAST, 0, 0}, {MOST, 0, 0}, {0, LEAST, 0}, {0, MOST, 0}, {0, 0, LEAST}, {0, 0, MOST}
        };
        for (int[] w : wrong) {
            due("unit: wrong number", x.unit(w[0], w[1], w[2]), OUTSIDE);
        }
        due("unit: refused ones do not come", x.count(0), 0);
        due("unit(0, 0, 0)", x.unit(0, 0, 0), 0);
        due("unit(3, 60, 60)", x.unit(3, 60, 60), 1);
        due("unit(1, 60, 0)", x.unit(1, 60, 0), 2);
        due("unit(2, 0, 60)", x.unit(2, 0, 60), 3);
        due("unit(0, 1, 1)", x.unit(0, 1, 1), 4);
        due("unit: a sixth", x.unit(0, 0, 0), FULL);
        due("unit: OUTSIDE ahead of FULL", x.unit(4, 0, 0), OUTSIDE);
        due("unit: five came", x.count(0), 5);
        due("unit: none is parked", x.count(2), 0);
        due("unit: none is broken", x.count(3), 0);
        due("unit: its work", x.ready(1), 120);
    }

    private static void broken() {
        DepotNight x = Nights.nightOf(0, 0);
        due("broken(0, false)", x.broken(0, false), 0);
        due("broken(0, true)", x.broken(0, true), 0);
        due("broken(0, true) again", x.broken(0, true), 1);
        due("broken(1, true)", x.broken(1, true), 0);
        due("broken: both", x.count(3), 2);
        due("broken(0, false) mends", x.broken(0, false), 1);
        due("broken: one left", x.count(3), 1);
        int[] unknown = {-1, 2, 5, LEAST, MOST};
        for (int unit : unknown) {
            due("broken(" + unit + ", true)", x.broken(unit, true), UNKNOWN);
        }
        due("broken: refused ones change nothing", x.count(3), 1);
        x.leave(0);
        due("broken: another serves", x.why(), 0);
        x.broken(0, true);
        due("broken: none serves", x.why(), 1);
        x.broken(1, false);
        due("broken: mended, it serves", x.why(), 0);
    }

    private static void length() {
        DepotNight x = Nights.nightOf(0, 0, 0);
        due("length(0, 1)", x.length(0, 1), 5);
        due("length(0, 5)", x.length(0, 5), 1);
        due("length(2, 3)", x.length(2, 3), 5);
        int[] tracks = {-1, 3, LEAST, MOST};
        for (int track : tracks) {
            due("length(" + track + ", 1)", x.length(track, 1), UNKNOWN);
            due("length: UNKNOWN ahead of OUTSIDE", x.length(track, 0), UNKNOWN);
        }
        int[] units = {0, 6, -1, LEAST, MOST};
        for (int room : units) {
            due("length(2, " + room + ")", x.length(2, room), OUTSIDE);
        }
        due("length: refused ones change nothing", x.length(2, 5), 3);
        Nights.parkAll(x, 1, 1);
        due("length below what stands there", x.length(1, 1), 5);
        due("length: the last stays", x.at(1, 0), 1);
        due("length: the first stays", x.at(1, 1), 0);
        due("length: no more comes", x.park(1), FULL);
        x.length(1, 3);
        due("length: more comes", x.park(1), 2);
    }

    private static void leave() {
        DepotNight x = Nights.nightOf(0, 1);
        int[] wrong = {-1, 4, LEAST, MOST};
        for (int kind : wrong) {
            due("leave(" + kind + ")", x.leave(kind), OUTSIDE);
        }
        due("leave: refused ones change nothing", x.count(1), 0);
        due("leave(3), of which there is none", x.leave(3), 1);
        due("leave: wanted in vain", x.why(), 1);
        for (int i = 2; i <= 5; i++) {
            due("leave(0)", x.leave(0), i);
        }
        due("leave: a sixth", x.leave(0), FULL);
        due("leave: OUTSIDE ahead of FULL", x.leave(4), OUTSIDE);
        due("leave: five are wanted", x.count(1), 5);
    }

    private static void stay() {
        DepotNight x = Nights.nightOf(0, 1);
        due("stay() at first", x.stay(), 0);
        Nights.leaveAll(x, 2, 2, 2);
        due("stay: none clean before", x.clean(), 0);
        due("stay()", x.stay(), 3);
        due("stay: nothing leaves", x.count(1), 0);
        due("stay: all clean then", x.clean(), 9);
        due("stay() again", x.stay(), 0);
        due("stay: leave anew", x.leave(1), 1);
        due("stay: the new one counts", x.why(), 0);
    }

    private static void clean() {
        DepotNight x = Nights.nightOf(0, 1);
        due("clean: nothing leaves", x.clean(), 9);
        Nights.leaveAll(x, 0, 1);
        due("clean: as they came", x.clean(), 6);
        x.stay();
        Nights.leaveAll(x, 1, 0);
        due("clean: the other way round", x.clean(), 9);
        x.length(0, 1);
        due("clean: not both on track 0", x.clean(), 8);
        Nights.parkAll(x, 0, 1);
        due("clean: wherever they are now", x.clean(), 8);
        x.broken(0, true);
        due("clean: none serves", x.clean(), 0);
        DepotNight three = Nights.nightOf(0, 1, 2);
        Nights.leaveAll(three, 1, 0);
        due("clean: what stays is in nobody's way", three.clean(), 12);
        three.stay();
        Nights.leaveAll(three, 0);
        due("clean: nothing behind the first that came", three.clean(), 12);
        DepotNight five = Nights.nightOf(0, 0, 0, 0, 0);
        due("clean: five that stay", five.clean(), 243);
        Nights.leaveAll(five, 0, 0, 0, 0, 0);
        due("clean: five alike", five.clean(), 243);
    }

    private static void cleanByChoice() {
        DepotNight x = Nights.nightOf(1, 0, 0);
        Nights.leaveAll(x, 0, 1);
        due("clean: by some choice", x.clean(), 24);
        x.broken(1, true);
        due("clean: a broken one stands in the way", x.clean(), 18);
        x.stay();
        x.leave(0);
        due("clean: a broken one not in the way", x.clean(), 27);
        x.broken(1, false);
        x.leave(1);
        Nights.lengths(x, 1, 1, 1);
        due("clean: one on each track", x.clean(), 6);
        x.unit(3, 0, 0);
        due("clean: four do not fit", x.clean(), 0);
    }

    private static void parking() {
        DepotNight x = Nights.nightOf(0, 1);
        Nights.leaveAll(x, 0, 1);
        int[][] rows = {{0, 1}, {0, 2}, {1, 0}, {1, 2}, {2, 0}, {2, 1}};
        for (int k = 0; k < rows.length; k++) {
            due("parking(" + k + ", 0)", x.parking(k, 0), rows[k][0]);
            due("parking(" + k + ", 1)", x.parking(k, 1), rows[k][1]);
        }
        int[] wrong = {-1, 6, LEAST, MOST};
        for (int k : wrong) {
            due("parking(" + k + ", 0)", x.parking(k, 0), OUTSIDE);
            due("parking: UNKNOWN ahead of OUTSIDE", x.parking(k, 2), UNKNOWN);
        }
        int[] unknown = {-1, 2, 5, LEAST, MOST};
        for (int unit : unknown) {
            due("parking(0, " + unit + ")", x.parking(0, unit), UNKNOWN);
        }
        x.length(2, 1);
        x.unit(1, 0, 0);
        due("parking: worked out anew", x.parking(0, 2), 1);
        DepotNight five = Nights.nightOf(0, 0, 0, 0, 0);
        due("parking: the last of all", five.parking(242, 4), 2);
        due("parking(5, 4)", five.parking(5, 4), 2);
        due("parking(5, 3)", five.parking(5, 3), 1);
        due("parking(81, 0)", five.parking(81, 0), 1);
        due("parking(243, 0)", five.parking(243, 0), OUTSIDE);
        due("parking: none without units", new DepotNight().parking(0, 0), UNKNOWN);
    }

    private static void narrow() {
        DepotNight x = Nights.nightOf(0, 0, 0);
        due("narrow: all on track 0", x.narrow(), 0);
        Nights.lengths(x, 1, 1, 3);
        due("narrow: all on track 2, the last", x.narrow(), 12);
        x.length(2, 2);
        due("narrow: the first with two", x.narrow(), 2);
        x.length(2, 1);
        due("narrow: the first with three", x.narrow(), 0);
        x.unit(0, 0, 0);
        due("narrow: NONE", x.narrow(), NONE);
    }

    private static void why() {
        DepotNight x = Nights.nightOf(0, 1, 2, 3);
        Nights.lengths(x, 1, 1, 1);
        Nights.leaveAll(x, 0, 0);
        due("why: 1 ahead of 2", x.why(), 1);
        x.stay();
        Nights.leaveAll(x, 0, 1, 2, 3);
        due("why: 2 ahead of 3", x.why(), 2);
        Nights.lengths(x, 2, 1, 1);
        due("why: 3, in the order in which they come", x.why(), 3);
        Nights.lengths(x, 5, 5, 5);
        due("why: 3 with all room", x.why(), 3);
        x.broken(3, true);
        due("why: 1 by a broken one", x.why(), 1);
        x.broken(3, false);
        x.stay();
        Nights.leaveAll(x, 3, 2, 1, 0);
        due("why: 0", x.why(), 0);
    }

    private static void park() {
        DepotNight x = Nights.nightOf(0, 0, 0);
        x.length(1, 1);
        int[] unknown = {-1, 3, LEAST, MOST};
        for (int track : unknown) {
            due("park(" + track + ")", x.park(track), UNKNOWN);
        }
        due("park: refused ones change nothing", x.count(2), 0);
        due("park(1)", x.park(1), 0);
        due("park: FULL", x.park(1), FULL);
        due("park: the same unit elsewhere", x.park(2), 1);
        due("park: behind it", x.park(2), 2);
        due("park: all are parked", x.park(0), NOT);
        due("park: NOT ahead of FULL", x.park(1), NOT);
        due("park: UNKNOWN ahead of NOT", x.park(3), UNKNOWN);
        x.unit(0, 0, 0);
        due("park: one more came", x.park(0), 3);
        due("park: four", x.count(2), 4);
        DepotNight five = Nights.nightOf(0, 0, 0, 0, 0);
        for (int unit = 0; unit < 5; unit++) {
            due("park: five on one track", five.park(0), unit);
        }
    }

    private static void clear() {
        DepotNight x = Nights.nightOf(0, 0, 0);
        due("clear() at first", x.clear(), 0);
        Nights.parkAll(x, 0, 1);
        due("clear()", x.clear(), 2);
        due("clear: none is parked", x.count(2), 0);
        due("clear: track 0 is empty", x.at(0, 0), NONE);
        due("clear: track 1 is empty", x.at(1, 0), NONE);
        due("clear: units remain", x.count(0), 3);
        due("clear: from unit 0 on", x.park(2), 0);
        due("clear() again", x.clear(), 1);
    }

    private static void at() {
        DepotNight x = Nights.nightOf(0, 0, 0, 0);
        Nights.parkAll(x, 0, 1, 0, 0);
        due("at: the last", x.at(0, 0), 3);
        due("at: ahead of it", x.at(0, 1), 2);
        due("at: the first", x.at(0, 2), 0);
        due("at: not so many", x.at(0, 3), NONE);
        due("at: far too many", x.at(0, MOST), NONE);
        due("at: another track", x.at(1, 0), 1);
        due("at: an empty track", x.at(2, 0), NONE);
        due("at: i below 0", x.at(0, -1), OUTSIDE);
        due("at: i far below 0", x.at(0, LEAST), OUTSIDE);
        int[] unknown = {-1, 3, LEAST, MOST};
        for (int track : unknown) {
            due("at(" + track + ", 0)", x.at(track, 0), UNKNOWN);
            due("at: UNKNOWN ahead of OUTSIDE", x.at(track, -1), UNKNOWN);
        }
    }

    private static void shunts() {
        DepotNight x = Nights.nightOf(0, 1, 2);
        due("shunts: nothing leaves", x.shunts(), 0);
        x.leave(0);
        due("shunts: none is parked", x.shunts(), NONE);
        Nights.parkAll(x, 0);
        due("shunts: what is not parked is not in the way", x.shunts(), 0);
        Nights.parkAll(x, 0, 0);
        due("shunts: two in the way", x.shunts(), 2);
        Nights.leaveAll(x, 1, 2);
        due("shunts: the others behind it", x.shunts(), 2);
        x.leave(3);
        due("shunts: no such kind", x.shunts(), NONE);
        x.stay();
        Nights.leaveAll(x, 2, 1, 0);
        due("shunts: as they stand", x.shunts(), 0);
        due("shunts: nothing has left", x.count(2), 3);
        due("shunts: all stand as before", x.at(0, 0), 2);
        x.clear();
        Nights.parkAll(x, 0, 1, 2);
        due("shunts: one on each track", x.shunts(), 0);
        DepotNight six = Nights.nightOf(0, 1, 2, 1, 3);
        Nights.parkAll(six, 0, 0, 1, 0, 0);
        Nights.lengths(six, 1, 5, 1);
        Nights.leaveAll(six, 0, 2, 3);
        due("shunts: six", six.shunts(), 6);
    }

    private static void shuntsWithoutRoom() {
        DepotNight x = Nights.nightOf(0, 1, 2, 3);
        Nights.parkAll(x, 0, 0, 1, 2);
        x.leave(0);
        due("shunts: with room", x.shunts(), 1);
        Nights.lengths(x, 5, 1, 1);
        due("shunts: without room", x.shunts(), NONE);
        due("shunts: no step of no run", x.step(0), NONE);
        due("shunts: no leaver of no run", x.leaves(0), NONE);
        due("shunts: late of no run", x.late(0, 0), NOT);
        Nights.lengths(x, 1, 1, 2);
        due("shunts: off a track that is too full", x.shunts(), 1);
        x.stay();
        Nights.leaveAll(x, 3, 0);
        Nights.lengths(x, 1, 1, 1);
        due("shunts: room by a going off", x.shunts(), 1);
        CHECKS.stepsAre("room by a going off", x, 2, 12, 0);
    }

    private static void step() {
        DepotNight x = Nights.nightOf(0, 1, 2);
        Nights.parkAll(x, 0, 0, 0);
        Nights.leaveAll(x, 0, 1, 2);
        CHECKS.stepsAre("0, 1, 2", x, 11, 11, 0, 1, 1);
        CHECKS.leaversAre("0, 1, 2", x, 0, 1, 2);
        x.stay();
        Nights.leaveAll(x, 0, 2, 1);
        CHECKS.stepsAre("0, 2, 1", x, 11, 12, 0, 1, 2);
        CHECKS.leaversAre("0, 2, 1", x, 0, 2, 1);
        x.stay();
        Nights.leaveAll(x, 0, 1, 2);
        Nights.lengths(x, 5, 1, 1);
        CHECKS.stepsAre("short tracks", x, 11, 12, 0, 2, 1);
        due("step: i below 0", x.step(-1), OUTSIDE);
        due("step: i far below 0", x.step(LEAST), OUTSIDE);
        due("step: i far above", x.step(MOST), NONE);
        x.clear();
        due("step: there is no run", x.step(0), NONE);
        due("step: OUTSIDE without a run", x.step(-1), OUTSIDE);
    }

    private static void stepInOrder() {
        DepotNight x = Nights.nightOf(0, 1, 2);
        Nights.parkAll(x, 0, 1, 1);
        Nights.leaveAll(x, 0, 1);
        CHECKS.stepsAre("a going off ahead of a shunt", x, 0, 13, 1);
        DepotNight lesser = Nights.nightOf(0, 0);
        Nights.parkAll(lesser, 2, 1);
        lesser.leave(0);
        CHECKS.stepsAre("the lesser track", lesser, 1);
        CHECKS.leaversAre("the lesser track", lesser, 1);
        DepotNight choice = Nights.nightOf(1, 0, 0);
        Nights.parkAll(choice, 1, 1, 0);
        Nights.leaveAll(choice, 0, 1);
        CHECKS.stepsAre("fewest shunts ahead of the lesser track", choice, 1, 1);
        CHECKS.leaversAre("fewest shunts ahead of the lesser track", choice, 1, 0);
        DepotNight from = Nights.nightOf(0, 1, 0, 1);
        Nights.parkAll(from, 1, 1, 2, 2);
        from.leave(0);
        CHECKS.stepsAre("the lesser from which", from, 13, 1);
        CHECKS.leaversAre("the lesser from which", from, 0);
        from.length(0, 1);
        Nights.leaveAll(from, 0);
        CHECKS.stepsAre("the lesser to which", from, 13, 1, 17, 2);
        DepotNight last = Nights.nightOf(0, 1);
        Nights.parkAll(last, 2, 2);
        last.leave(0);
        CHECKS.stepsAre("from the last track", last, 16, 2);
    }

    private static void leaves() {
        DepotNight x = Nights.nightOf(0, 0, 1);
        Nights.parkAll(x, 0, 1, 1);
        Nights.leaveAll(x, 0, 1, 0);
        CHECKS.leaversAre("two alike", x, 0, 2, 1);
        due("leaves: i below 0", x.leaves(-1), OUTSIDE);
        due("leaves: i far below 0", x.leaves(LEAST), OUTSIDE);
        due("leaves: i far above", x.leaves(MOST), NONE);
        x.leave(0);
        due("leaves: there is no run", x.leaves(0), NONE);
        due("leaves: OUTSIDE without a run", x.leaves(-1), OUTSIDE);
    }

    private static void brokenInTheYard() {
        DepotNight x = Nights.nightOf(0, 0);
        Nights.parkAll(x, 0, 0);
        x.leave(0);
        CHECKS.leaversAre("the last one", x, 1);
        x.broken(1, true);
        due("shunts: a broken one in the way", x.shunts(), 1);
        CHECKS.stepsAre("a broken one in the way", x, 11, 0);
        CHECKS.leaversAre("the one in its place", x, 0);
        x.broken(0, true);
        due("shunts: both are broken", x.shunts(), NONE);
        x.broken(1, false);
        CHECKS.leaversAre("the mended one", x, 1);
        for (int kind = 0; kind < 4; kind++) {
            DepotNight other = Nights.nightOf(kind, (kind + 1) % 4);
            Nights.parkAll(other, 0, 0);
            other.leave(kind);
            other.broken(1, true);
            CHECKS.stepsAre("a broken one of another kind", other, 11, 0);
        }
    }

    private static void ready() {
        DepotNight x = new DepotNight();
        due("ready: no units", x.ready(0), UNKNOWN);
        x.unit(0, 10, 5);
        x.unit(0, 0, 20);
        x.unit(0, 30, 0);
        x.unit(0, 5, 5);
        int[] minutes = {15, 35, 40, 50};
        for (int unit = 0; unit < 4; unit++) {
            due("ready(" + unit + ")", x.ready(unit), minutes[unit]);
        }
        int[] unknown = {-1, 4, 5, LEAST, MOST};
        for (int unit : unknown) {
            due("ready(" + unit + ")", x.ready(unit), UNKNOWN);
        }
        x.broken(0, true);
        due("ready: a broken one is washed too", x.ready(3), 50);
        DepotNight idle = new DepotNight();
        idle.unit(0, 0, 50);
        idle.unit(0, 0, 0);
        due("ready: behind the one ahead, with 0 minutes", idle.ready(1), 50);
    }

    private static void ends() {
        DepotNight x = new DepotNight();
        x.unit(0, 30, 10);
        due("ends: one", x.ends(), 40);
        x.unit(0, 10, 30);
        due("ends: the other way round", x.ends(), 50);
        x.unit(0, 0, 0);
        due("ends: one without work", x.ends(), 50);
        DepotNight five = new DepotNight();
        for (int unit = 0; unit < 5; unit++) {
            five.unit(0, 60, 60);
        }
        due("ends: as long as can be", five.ends(), 360);
        due("ends: without work", Nights.nightOf(0, 0, 0).ends(), 0);
    }

    private static void best() {
        DepotNight x = new DepotNight();
        due("best: no units", x.best(0, 0), OUTSIDE);
        x.unit(0, 30, 10);
        x.unit(0, 10, 30);
        due("best(0, 0)", x.best(0, 0), 1);
        due("best(0, 1)", x.best(0, 1), 40);
        due("best(1, 0)", x.best(1, 0), 0);
        due("best(1, 1)", x.best(1, 1), 50);
        int[] wrong = {-1, 2, 5, LEAST, MOST};
        for (int w : wrong) {
            due("best(" + w + ", 0)", x.best(w, 0), OUTSIDE);
            due("best(0, " + w + ")", x.best(0, w), OUTSIDE);
        }
        DepotNight alike = new DepotNight();
        for (int unit = 0; unit < 5; unit++) {
            alike.unit(0, 10, 10);
        }
        for (int i = 0; i < 5; i++) {
            due("best: of several the first", alike.best(i, 0), i);
            due("best: one behind the other", alike.best(i, 1), 20 + 10 * i);
        }
    }

    private static void late() {
        DepotNight x = new DepotNight();
        x.unit(0, 30, 10);
        x.unit(1, 10, 30);
        Nights.leaveAll(x, 1, 0);
        due("late: no run", x.late(0, 0), NOT);
        due("late: OUTSIDE ahead of NOT", x.late(2, 0), OUTSIDE);
        Nights.parkAll(x, 0, 1);
        int[][] byNumbers = {{0, 3}, {29, 3}, {30, 2}, {69, 2}, {70, 0}, {1000, 0}};
        for (int[] row : byNumbers) {
            due("late(0, " + row[0] + ")", x.late(0, row[0]), row[1]);
        }
        due("late(1, 39)", x.late(1, 39), 3);
        due("late(1, 40)", x.late(1, 40), 0);
        int[] ways = {-1, 2, LEAST, MOST};
        for (int way : ways) {
            due("late(" + way + ", 0)", x.late(way, 0), OUTSIDE);
        }
        int[] minutes = {-1, 1001, LEAST, MOST};
        for (int d : minutes) {
            due("late(0, " + d + ")", x.late(0, d), OUTSIDE);
        }
        x.stay();
        x.leave(0);
        due("late: what does not leave is not late", x.late(0, 0), 1);
        x.stay();
        due("late: nothing leaves", x.late(0, 0), 0);
    }

    private static void count() {
        DepotNight x = Nights.nightOf(0, 1, 2);
        Nights.leaveAll(x, 0, 1);
        Nights.parkAll(x, 0);
        due("count(0)", x.count(0), 3);
        due("count(1)", x.count(1), 2);
        due("count(2)", x.count(2), 1);
        due("count(3)", x.count(3), 0);
        x.broken(2, true);
        due("count(3), one not parked", x.count(3), 1);
        int[] wrong = {-1, 4, LEAST, MOST};
        for (int what : wrong) {
            due("count(" + what + ")", x.count(what), OUTSIDE);
        }
    }

    private static void objectsAreApart() {
        DepotNight one = Nights.nightOf(0, 1);
        DepotNight other = Nights.nightOf(1, 0);
        Nights.leaveAll(one, 0);
        Nights.leaveAll(other, 0);
        Nights.parkAll(one, 0, 0);
        Nights.parkAll(other, 1, 1);
        due("apart: one", one.shunts(), 1);
        due("apart: other", other.shunts(), 0);
        due("apart: one still", one.step(0), 11);
        due("apart: other still", other.step(0), 1);
    }
}
