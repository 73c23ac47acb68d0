/** The promises 1 to 21: each sentence's boundary cases, with the sentence beside them. */
final class CallEdges {
    private static final int NONE = -1, UNKNOWN = -2, OUTSIDE = -3, NOT = -4, FULL = -5;
    private static final int LEAST = Integer.MIN_VALUE, MOST = Integer.MAX_VALUE;

    private final Checks checks;

    CallEdges(Checks checks) {
        this.checks = checks;
    }

    void all() {
        newObject();
        unit();
        unitRefused();
        broken();
        brokenRefused();
        length();
        lengthRefused();
        lengthStays();
        leave();
        leaveRefused();
        stay();
        clean();
        parking();
        parkingRefused();
        narrow();
        why();
        park();
        parkRefused();
        clear();
        at();
        atRefused();
        shunts();
        step();
        stepRefused();
        leaves();
        leavesRefused();
        ready();
        readyRefused();
        ends();
        best();
        bestRefused();
        late();
        lateRefused();
        count();
        countRefused();
    }

    private void says(int promise, String words) {
        checks.sentence(promise, words);
    }

    private void due(String call, int got, int want) {
        checks.due(call, got, want);
    }

    private void newObject() {
        says(1, "No UNITS, nothing leaves.");
        DepotNight x = new DepotNight();
        for (int what = 0; what < 4; what++) {
            due("count(" + what + ")", x.count(what), 0);
        }
        due("stay()", x.stay(), 0);
        due("clear()", x.clear(), 0);
        due("ready(0)", x.ready(0), UNKNOWN);
        due("clean(), of nobody", x.clean(), 1);
        due("shunts(), for nobody", x.shunts(), 0);
        due("late(0, 0), nobody", x.late(0, 0), 0);
        DepotNight used = Nights.nightOf(0, 1, 2);
        used.leave(0);
        due("another object has units", used.count(0), 3);
        due("this one has none", x.count(0), 0);
        due("nothing leaves from this one", x.count(1), 0);
    }

    private void unit() {
        says(2, "A UNIT comes (it is not parked yet): its number.");
        DepotNight x = new DepotNight();
        for (int unit = 0; unit < 5; unit++) {
            due("unit(0, 0, 0)", x.unit(0, 0, 0), unit);
            due("the others are parked", x.count(2), unit);
            due("it is not", x.at(0, 0), unit - 1);
            due("it is parked", x.park(0), unit);
        }
        x.clear();
        due("parked again from 0", x.park(0), 0);
    }

    private void unitRefused() {
        says(2, "OUTSIDE; FULL.");
        int[] wrongKinds = {-1, 4, LEAST, MOST};
        int[] wrongMinutes = {-1, 61, LEAST, MOST};
        for (DepotNight x : new DepotNight[] {new DepotNight(), Nights.nightOf(0, 0, 0, 0, 0)}) {
            for (int kind : wrongKinds) {
                due("unit(" + kind + ", 0, 0)", x.unit(kind, 0, 0), OUTSIDE);
            }
            for (int minutes : wrongMinutes) {
                due("unit(3, " + minutes + ", 60)", x.unit(3, minutes, 60), OUTSIDE);
                due("unit(3, 60, " + minutes + ")", x.unit(3, 60, minutes), OUTSIDE);
            }
        }
        DepotNight four = Nights.nightOf(0, 0, 0, 0);
        due("the last that may come", four.unit(3, 60, 60), 4);
        due("one too many", four.unit(3, 60, 60), FULL);
        due("one too many again", four.unit(0, 0, 0), FULL);
    }

    private void broken() {
        says(3, "Whether a UNIT is BROKEN from now on: whether it was (1, 0).");
        DepotNight x = Nights.nightOf(0, 0, 0, 0, 0);
        boolean[] told = {false, true, true, false, false, true, false};
        for (int unit = 0; unit < 5; unit += 4) {
            boolean was = false;
            for (boolean is : told) {
                due("broken(" + unit + ", " + is + ")", x.broken(unit, is), was ? 1 : 0);
                due("from now on", x.count(3), is ? 1 : 0);
                was = is;
            }
        }
        x.park(0);
        x.broken(0, true);
        x.clear();
        due("broken though no more parked", x.broken(0, true), 1);
    }

    private void brokenRefused() {
        says(3, "UNKNOWN.");
        DepotNight x = new DepotNight();
        for (int units = 0; units <= 5; units++) {
            due("the first that has not come", x.broken(units, true), UNKNOWN);
            due("nor mended", x.broken(units, false), UNKNOWN);
            x.unit(0, 0, 0);
        }
        for (int unit : new int[] {-1, 5, LEAST, MOST}) {
            due("broken(" + unit + ", true)", x.broken(unit, true), UNKNOWN);
        }
        due("none is broken", x.count(3), 0);
    }

    private void length() {
        says(4, "LENGTH of a TRACK: that which it was.");
        DepotNight x = new DepotNight();
        for (int t = 0; t < 3; t++) {
            int[] told = {1, 5, 5, 2, 1, 4};
            int was = 5;
            for (int room : told) {
                due("length(" + t + ", " + room + ")", x.length(t, room), was);
                was = room;
            }
        }
        due("each track its own", x.length(0, 5), 4);
    }

    private void lengthRefused() {
        says(4, "UNKNOWN; OUTSIDE.");
        DepotNight x = new DepotNight();
        Nights.lengths(x, 2, 3, 4);
        for (int t : new int[] {-1, 3, LEAST, MOST}) {
            due("length(" + t + ", 1)", x.length(t, 1), UNKNOWN);
            due("UNKNOWN ahead of OUTSIDE", x.length(t, 0), UNKNOWN);
        }
        for (int t = 0; t < 3; t++) {
            for (int room : new int[] {0, 6, LEAST, MOST}) {
                due("length(" + t + ", " + room + ")", x.length(t, room), OUTSIDE);
            }
            due("as it was", x.length(t, 5), t + 2);
        }
    }

    private void lengthStays() {
        says(4, "(What stands there stays.)");
        DepotNight x = Nights.nightOf(0, 1, 2, 3, 0);
        Nights.parkAll(x, 1, 1, 1, 1);
        due("length below what stands", x.length(1, 1), 5);
        for (int i = 0; i < 4; i++) {
            due("at(1, " + i + ")", x.at(1, i), 3 - i);
        }
        due("all are parked still", x.count(2), 4);
        Nights.leaveAll(x, 3, 2, 1, 0);
        checks.stepsAre("they leave", x, 1, 1, 1, 1);
        due("no more comes", x.park(1), FULL);
        x.length(1, 4);
        due("just filled", x.park(1), FULL);
        x.length(1, 5);
        due("room for one", x.park(1), 4);
        due("behind all", x.at(1, 0), 4);
    }

    private void leave() {
        says(5, "A KIND more is wanted: how many leave.");
        DepotNight x = new DepotNight();
        for (int i = 1; i <= 5; i++) {
            due("leave(3), though there is none", x.leave(3), i);
            due("how many leave", x.count(1), i);
        }
        due("all in vain", x.why(), 1);
    }

    private void leaveRefused() {
        says(5, "OUTSIDE; FULL.");
        DepotNight x = Nights.nightOf(0, 1, 2, 3, 0);
        int[] wrong = {-1, 4, LEAST, MOST};
        for (int kind : wrong) {
            due("leave(" + kind + ")", x.leave(kind), OUTSIDE);
        }
        due("none of them leaves", x.count(1), 0);
        Nights.leaveAll(x, 0, 0, 1, 2);
        due("the last that may", x.leave(3), 5);
        due("one too many", x.leave(1), FULL);
        for (int kind : wrong) {
            due("OUTSIDE ahead of FULL", x.leave(kind), OUTSIDE);
        }
        due("five leave", x.count(1), 5);
        due("not the sixth, of which there would be too few", x.why() == 1 ? 1 : 0, 0);
    }

    private void stay() {
        says(6, "Nothing leaves any more: how many did.");
        DepotNight x = Nights.nightOf(0);
        x.park(0);
        for (int many = 0; many <= 5; many++) {
            for (int i = 0; i < many; i++) {
                x.leave(3);
            }
            due("stay() after " + many, x.stay(), many);
            due("nothing leaves", x.count(1), 0);
            due("stay() again", x.stay(), 0);
            due("an empty run", x.shunts(), 0);
        }
        due("the first of a new row", x.leave(0), 1);
        checks.leaversAre("the new row alone", x, 0);
    }

    private void clean() {
        says(7, "How many CLEAN PARKINGS there are (of all UNITS, wherever they are now).");
        due("no units: one, of nobody", new DepotNight().clean(), 1);
        DepotNight x = Nights.nightOf(0, 1, 0);
        due("none parked", x.clean(), 27);
        Nights.leaveAll(x, 1);
        due("unit 2 not behind unit 1", x.clean(), 18);
        x.park(0);
        due("one parked", x.clean(), 18);
        Nights.parkAll(x, 0, 0);
        due("all parked, blocked as they stand", x.clean(), 18);
        x.length(0, 1);
        due("three stand where one fits", x.clean(), 14);
        x.clear();
        due("none parked any more", x.clean(), 14);
        x.leave(1);
        due("none", x.clean(), 0);
    }

    private void parking() {
        says(8, "The TRACK of a UNIT in CLEAN PARKING k.");
        DepotNight x = Nights.nightOf(0, 1, 2);
        Nights.leaveAll(x, 0, 1, 2);
        int[][] rows = {{0, 1, 2}, {0, 2, 1}, {1, 0, 2}, {1, 2, 0}, {2, 0, 1}, {2, 1, 0}};
        due("one on each track", x.clean(), rows.length);
        for (int k = 0; k < rows.length; k++) {
            for (int unit = 0; unit < 3; unit++) {
                due("parking(" + k + ", " + unit + ")", x.parking(k, unit), rows[k][unit]);
            }
        }
        x.stay();
        due("the last of 27", x.parking(26, 0), 2);
        due("6 of 27 is another then", x.parking(6, 1), 2);
    }

    private void parkingRefused() {
        says(8, "UNKNOWN; OUTSIDE: no such PARKING.");
        DepotNight x = Nights.nightOf(0, 1, 0);
        x.leave(1);
        due("the last one", x.parking(17, 0), 2);
        for (int k : new int[] {-1, 18, 242, 243, LEAST, MOST}) {
            due("parking(" + k + ", 0)", x.parking(k, 0), OUTSIDE);
            due("UNKNOWN ahead of OUTSIDE", x.parking(k, 3), UNKNOWN);
        }
        for (int unit : new int[] {-1, 3, 5, LEAST, MOST}) {
            due("parking(0, " + unit + ")", x.parking(0, unit), UNKNOWN);
        }
        x.leave(1);
        due("there is none", x.parking(0, 0), OUTSIDE);
        due("no unit in the one of nobody", new DepotNight().parking(0, 0), UNKNOWN);
        DepotNight five = Nights.nightOf(0, 0, 0, 0, 0);
        due("the last of all", five.parking(242, 0), 2);
        due("behind the last of all", five.parking(243, 0), OUTSIDE);
    }

    private void narrow() {
        says(9, "The number of the CLEAN PARKING that uses the fewest TRACKS, of several the first; NONE.");
        due("no tracks", new DepotNight().narrow(), 0);
        DepotNight x = Nights.nightOf(0, 0, 0, 0, 0);
        due("of three with one track the first", x.narrow(), 0);
        x.length(0, 4);
        due("all on track 1, as not all fit on track 0", x.narrow(), 120);
        Nights.lengths(x, 1, 1, 5);
        due("one track, the last of 31", x.narrow(), 30);
        Nights.lengths(x, 1, 1, 4);
        due("two tracks, the first of several", x.narrow(), 4);
        due("it is 0 2 2 2 2", x.parking(4, 1), 2);
        Nights.lengths(x, 1, 1, 3);
        due("three tracks", x.narrow(), 0);
        Nights.lengths(x, 1, 1, 2);
        due("they do not fit", x.narrow(), NONE);
        DepotNight vain = Nights.nightOf(0);
        vain.leave(1);
        due("wanted in vain", vain.narrow(), NONE);
    }

    private void why() {
        says(10, "WHY (1, 2, 3); 0: there is one.");
        DepotNight x = new DepotNight();
        due("one of nobody", x.why(), 0);
        x.leave(0);
        due("1", x.why(), 1);
        x.unit(0, 0, 0);
        due("0", x.why(), 0);
        Nights.lengths(x, 1, 1, 1);
        x.unit(1, 0, 0);
        x.unit(1, 0, 0);
        due("just room", x.why(), 0);
        x.unit(1, 0, 0);
        due("2", x.why(), 2);
        x.broken(0, true);
        due("1 ahead of 2", x.why(), 1);
        DepotNight blocked = Nights.nightOf(0, 1, 2, 3);
        Nights.leaveAll(blocked, 0, 1, 2, 3);
        due("3", blocked.why(), 3);
        due("there is none", blocked.clean(), 0);
    }

    private void park() {
        says(11, "The next UNIT that is not parked comes on a TRACK: its number.");
        DepotNight x = Nights.nightOf(0, 0, 0);
        int[] tracks = {2, 0, 2};
        for (int unit = 0; unit < 3; unit++) {
            due("park(" + tracks[unit] + ")", x.park(tracks[unit]), unit);
            due("it is the last there", x.at(tracks[unit], 0), unit);
            due("parked", x.count(2), unit + 1);
        }
        x.unit(0, 0, 0);
        due("one that came later", x.park(1), 3);
    }

    private void parkRefused() {
        says(11, "UNKNOWN; NOT: all are parked; FULL: the TRACK.");
        DepotNight x = new DepotNight();
        due("no units: all are parked", x.park(0), NOT);
        x.length(1, 1);
        x.unit(0, 0, 0);
        due("just room", x.park(1), 0);
        due("NOT ahead of FULL", x.park(1), NOT);
        x.unit(0, 0, 0);
        due("FULL", x.park(1), FULL);
        for (int t : new int[] {-1, 3, LEAST, MOST}) {
            due("park(" + t + ")", x.park(t), UNKNOWN);
        }
        due("the same unit on another track", x.park(2), 1);
        for (int t : new int[] {-1, 3, LEAST, MOST}) {
            due("UNKNOWN ahead of NOT", x.park(t), UNKNOWN);
        }
        for (int t = 0; t < 3; t++) {
            due("all are parked", x.park(t), NOT);
        }
        due("two are parked", x.count(2), 2);
    }

    private void clear() {
        says(12, "All UNITS are not parked any more: how many were.");
        DepotNight x = Nights.nightOf(0, 1, 2, 3, 0);
        x.leave(0);
        for (int parked = 0; parked <= 5; parked++) {
            for (int unit = 0; unit < parked; unit++) {
                x.park(unit % 3);
            }
            due("a run while they stand", x.shunts() == NONE ? 0 : 1, parked == 0 ? 0 : 1);
            due("clear() of " + parked, x.clear(), parked);
            due("none is parked", x.count(2), 0);
            due("clear() again", x.clear(), 0);
            for (int t = 0; t < 3; t++) {
                due("track " + t + " is empty", x.at(t, 0), NONE);
            }
            due("no run", x.shunts(), NONE);
        }
        due("units do not go", x.count(0), 5);
        due("nor what is wanted", x.count(1), 1);
        due("the first is parked first again", x.park(0), 0);
    }

    private void at() {
        says(13, "UNIT i (from 0, the last one 0) of a TRACK; NONE: there are not so many.");
        DepotNight x = Nights.nightOf(0, 0, 0, 0, 0);
        due("an empty track", x.at(1, 0), NONE);
        for (int unit = 0; unit < 5; unit++) {
            x.park(1);
            for (int i = 0; i <= unit; i++) {
                due("at(1, " + i + ") of " + (unit + 1), x.at(1, i), unit - i);
            }
            due("one more than stand there", x.at(1, unit + 1), NONE);
        }
        due("far more", x.at(1, MOST), NONE);
        due("another track", x.at(0, 0), NONE);
    }

    private void atRefused() {
        says(13, "UNKNOWN; OUTSIDE: i below 0.");
        DepotNight x = Nights.nightOf(0);
        x.park(0);
        for (int t : new int[] {-1, 3, LEAST, MOST}) {
            due("at(" + t + ", 0)", x.at(t, 0), UNKNOWN);
            due("UNKNOWN ahead of OUTSIDE", x.at(t, -1), UNKNOWN);
        }
        for (int t = 0; t < 3; t++) {
            due("i below 0", x.at(t, -1), OUTSIDE);
            due("i far below 0", x.at(t, LEAST), OUTSIDE);
        }
    }

    private void shunts() {
        says(14, "LEAST SHUNTS; NONE: there is no RUN.");
        DepotNight x = Nights.nightOf(0, 1, 2, 3, 3);
        due("none needed, for nobody", x.shunts(), 0);
        x.leave(0);
        due("nobody is parked", x.shunts(), NONE);
        for (int behind = 0; behind < 5; behind++) {
            x.park(0);
            due("behind it stand " + behind, x.shunts(), behind);
        }
        Nights.lengths(x, 5, 2, 2);
        due("just room", x.shunts(), 4);
        Nights.lengths(x, 5, 2, 1);
        due("room for one too few", x.shunts(), NONE);
        Nights.lengths(x, 5, 5, 5);
        x.broken(4, true);
        due("a broken one in the way", x.shunts(), 4);
        x.broken(0, true);
        due("the one itself is broken", x.shunts(), NONE);
        x.broken(0, false);
        x.leave(0);
        due("one too few of the kind", x.shunts(), NONE);
    }

    private void step() {
        says(15, "Step i (from 0) of FIRST RUN: of a going off its TRACK; of a SHUNT 10 and 3 from and to;"
            + " NONE: it has not so many, or there is none.");
        for (int from = 0; from < 3; from++) {
            for (int to = 0; to < 3; to++) {
                if (from != to) {
                    DepotNight x = Nights.nightOf(2, 0, 1);
                    x.length(3 - from - to, 1);
                    Nights.parkAll(x, 3 - from - to, from, from);
                    x.leave(0);
                    checks.stepsAre("from " + from + " to " + to, x, 10 + 3 * from + to, from);
                    due("far behind its last", x.step(MOST), NONE);
                }
            }
        }
        DepotNight longest = Nights.nightOf(0, 1, 1, 2, 3);
        Nights.parkAll(longest, 0, 0, 0, 0, 0);
        Nights.lengths(longest, 1, 1, 3);
        Nights.leaveAll(longest, 0, 3, 2, 1, 1);
        checks.stepsAre("as many as can be", longest, 11, 12, 12, 12, 0, 1, 16, 17, 2, 0, 1);
        checks.leaversAre("as many as can be", longest, 0, 4, 3, 1, 2);
        DepotNight none = new DepotNight();
        due("of an empty run", none.step(0), NONE);
        none.leave(0);
        due("of none", none.step(0), NONE);
        due("far behind, of none", none.step(MOST), NONE);
    }

    private void stepRefused() {
        says(15, "OUTSIDE: i below 0.");
        DepotNight x = Nights.nightOf(0);
        x.leave(0);
        due("of no run", x.step(-1), OUTSIDE);
        x.park(1);
        due("the first", x.step(0), 1);
        due("ahead of the first", x.step(-1), OUTSIDE);
        due("far ahead", x.step(LEAST), OUTSIDE);
    }

    private void leaves() {
        says(16, "The UNIT that leaves as the i-th (from 0) in FIRST RUN; NONE.");
        DepotNight x = Nights.nightOf(0, 0, 0, 0, 0);
        due("nothing leaves", x.leaves(0), NONE);
        Nights.parkAll(x, 2, 1, 0, 1, 2);
        int[] units = {2, 3, 1, 4, 0};
        for (int many = 0; many < 5; many++) {
            due("not so many leave", x.leaves(many), NONE);
            x.leave(0);
            due("leaves(" + many + ")", x.leaves(many), units[many]);
        }
        checks.leaversAre("all five", x, units);
        due("far behind the last", x.leaves(MOST), NONE);
        x.broken(2, true);
        due("there is no run", x.leaves(0), NONE);
        x.stay();
        x.leave(0);
        checks.leaversAre("the one that goes in its place", x, 3);
    }

    private void leavesRefused() {
        says(16, "OUTSIDE: likewise.");
        DepotNight x = Nights.nightOf(0);
        x.leave(0);
        due("of no run", x.leaves(-1), OUTSIDE);
        x.park(2);
        due("ahead of the first", x.leaves(-1), OUTSIDE);
        due("far ahead", x.leaves(LEAST), OUTSIDE);
    }

    private void ready() {
        says(17, "When a UNIT is READY, if all come in the ORDER of their numbers.");
        DepotNight x = new DepotNight();
        int[][] rows = {{30, 10, 40}, {10, 40, 80}, {0, 20, 100}, {20, 20, 120}, {0, 0, 120}};
        for (int unit = 0; unit < 5; unit++) {
            x.unit(0, rows[unit][0], rows[unit][1]);
            for (int ahead = 0; ahead <= unit; ahead++) {
                due("ready(" + ahead + ") of " + (unit + 1), x.ready(ahead), rows[ahead][2]);
            }
        }
        due("though another order is better", x.ends(), 90);
        x.broken(0, true);
        due("a broken one comes too", x.ready(4), 120);
    }

    private void readyRefused() {
        says(17, "UNKNOWN.");
        DepotNight x = new DepotNight();
        for (int units = 0; units <= 5; units++) {
            due("the first that has not come", x.ready(units), UNKNOWN);
            due("below 0", x.ready(-1), UNKNOWN);
            x.unit(0, 60, 60);
        }
        due("far below 0", x.ready(LEAST), UNKNOWN);
        due("far above", x.ready(MOST), UNKNOWN);
    }

    private void ends() {
        says(18, "When the last is READY by BEST ORDER (0 without UNITS).");
        DepotNight x = new DepotNight();
        due("without units", x.ends(), 0);
        int[] ends = {120, 180, 240, 300, 360};
        for (int unit = 0; unit < 5; unit++) {
            x.unit(0, 60, 60);
            due("ends of " + (unit + 1), x.ends(), ends[unit]);
        }
        due("without work", Nights.nightOf(0, 1).ends(), 0);
        due("better than by numbers", Nights.nightOfWork(60, 0, 0, 60).ends(), 60);
        due("washed alone", Nights.nightOfWork(60, 0, 60, 0, 60, 0, 60, 0, 60, 0).ends(), 300);
        due("fuelled alone", Nights.nightOfWork(0, 60, 0, 60, 0, 60, 0, 60, 0, 60).ends(), 300);
    }

    private void best() {
        says(19, "Place i (from 0) of BEST ORDER: the UNIT (what 0), when it is READY (1).");
        DepotNight one = Nights.nightOfWork(5, 6);
        due("the only one", one.best(0, 0), 0);
        due("the only one's minute", one.best(0, 1), 11);
        DepotNight x = Nights.nightOfWork(50, 0, 60, 60, 30, 60, 20, 30, 10, 20);
        int[] minutes = {30, 60, 120, 180, 180};
        for (int i = 0; i < 5; i++) {
            due("best(" + i + ", 0)", x.best(i, 0), 4 - i);
            due("best(" + i + ", 1)", x.best(i, 1), minutes[i]);
        }
        due("the last place ends it", x.ends(), 180);
    }

    private void bestRefused() {
        says(19, "OUTSIDE: also no such place.");
        DepotNight x = new DepotNight();
        for (int units = 0; units <= 5; units++) {
            due("behind the last place", x.best(units, 0), OUTSIDE);
            due("its minute", x.best(units, 1), OUTSIDE);
            x.unit(0, 1, 1);
        }
        for (int wrong : new int[] {-1, 2, LEAST, MOST}) {
            due("what " + wrong, x.best(0, wrong), OUTSIDE);
        }
        for (int i : new int[] {-1, 5, LEAST, MOST}) {
            due("place " + i, x.best(i, 0), OUTSIDE);
            due("place " + i + " and what 2", x.best(i, 2), OUTSIDE);
        }
    }

    private void late() {
        says(20, "LATE UNITS told by bits, by the ORDER of numbers (way 0), by BEST ORDER (1), d 0 .. 1000.");
        DepotNight x = Nights.nightOfWork(60, 60, 60, 60, 60, 60, 60, 60, 60, 60);
        due("nobody leaves", x.late(0, 0), 0);
        Nights.parkAll(x, 0, 0, 0, 0, 0);
        for (int unit = 4; unit >= 0; unit--) {
            x.leave(0);
            due("the last " + (5 - unit), x.late(0, 0), 32 - (1 << unit));
        }
        due("all", x.late(1, 0), 31);
        due("none at the last minute", x.late(0, 1000), 0);
        due("none at the last minute by the best order", x.late(1, 1000), 0);
        DepotNight two = Nights.nightOfWork(60, 0, 0, 60);
        Nights.leaveAll(two, 0, 0);
        Nights.parkAll(two, 0, 1);
        due("by numbers, ready at 60 and 120", two.late(0, 60), 2);
        due("by the best order, both at 60", two.late(1, 60), 0);
        due("by the best order a minute too few", two.late(1, 59), 1);
        due("by the best order eleven too few", two.late(1, 49), 3);
    }

    private void lateRefused() {
        says(20, "OUTSIDE; NOT: there is no RUN.");
        DepotNight run = Nights.nightOf(0);
        run.leave(0);
        run.park(0);
        DepotNight none = Nights.nightOf(0);
        none.leave(0);
        for (DepotNight x : new DepotNight[] {new DepotNight(), run, none}) {
            for (int way : new int[] {-1, 2, LEAST, MOST}) {
                due("late(" + way + ", 0)", x.late(way, 0), OUTSIDE);
            }
            for (int d : new int[] {-1, 1001, LEAST, MOST}) {
                due("late(0, " + d + ")", x.late(0, d), OUTSIDE);
                due("late(1, " + d + ")", x.late(1, d), OUTSIDE);
            }
        }
        for (int way = 0; way < 2; way++) {
            due("no run", none.late(way, 0), NOT);
            due("no run, the last minute", none.late(way, 1000), NOT);
            due("a run", run.late(way, 0), 0);
            due("an empty run", new DepotNight().late(way, 0), 0);
        }
    }

    private void count() {
        says(21, "0 UNITS, 1 how many leave, 2 parked ones, 3 BROKEN ones.");
        DepotNight x = new DepotNight();
        for (int many = 0; many <= 5; many++) {
            for (int what = 0; what < 4; what++) {
                due("count(" + what + ")", x.count(what), many);
            }
            x.unit(0, 0, 0);
            x.leave(0);
            x.park(0);
            x.broken(many, true);
        }
        x.clear();
        x.stay();
        x.broken(4, false);
        int[] then = {5, 0, 0, 4};
        for (int what = 0; what < 4; what++) {
            due("then count(" + what + ")", x.count(what), then[what]);
        }
    }

    private void countRefused() {
        says(21, "OUTSIDE.");
        DepotNight x = Nights.nightOf(0);
        for (int what : new int[] {-1, 4, LEAST, MOST}) {
            due("count(" + what + ")", x.count(what), OUTSIDE);
        }
    }
}
