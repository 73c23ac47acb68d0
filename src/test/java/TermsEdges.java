/** The sentences ahead of the promises: each one's boundary cases, with the sentence beside them. */
final class TermsEdges {
    private static final int NONE = -1, UNKNOWN = -2, OUTSIDE = -3, NOT = -4, FULL = -5;
    private static final int LEAST = Integer.MIN_VALUE, MOST = Integer.MAX_VALUE;
    private static final int TERMS = 0;

    private final Checks checks;

    TermsEdges(Checks checks) {
        this.checks = checks;
    }

    void all() {
        calls();
        unitsAndKinds();
        work();
        tracks();
        length();
        leaving();
        broken();
        parking();
        fits();
        clean();
        order();
        why();
        yard();
        shunt();
        run();
        leastShunts();
        firstRun();
        washedAndFuelled();
        ready();
        bestOrder();
        late();
    }

    private void says(String words) {
        checks.sentence(TERMS, words);
    }

    private void due(String call, int got, int want) {
        checks.due(call, got, want);
    }

    private void calls() {
        says("An object is used for at most 512 calls after it has been made; what later calls answer is free.");
        DepotNight x = Nights.nightOf(0, 1, 2, 3, 1);
        Nights.parkAll(x, 0, 0, 0, 0, 0);
        x.leave(0);
        x.length(2, 1);
        int made = 12;
        for (int pair = 0; pair < 249; pair++) {
            boolean hasRoom = pair % 2 == 0;
            x.length(1, hasRoom ? 3 : 2);
            due("shunts() after many calls", x.shunts(), hasRoom ? 4 : NONE);
            made += 2;
        }
        due("the 511th call, leaves(0)", x.leaves(0), 0);
        due("the 512th call, step(3)", x.step(3), 12);
        due("calls made", made + 2, 512);
    }

    private void unitsAndKinds() {
        says("1 UNITS are numbered from 0 as they come, 5 at most; each is of a KIND (0 ..");
        DepotNight x = new DepotNight();
        due("kind -1", x.unit(-1, 0, 0), OUTSIDE);
        for (int kind = 0; kind < 4; kind++) {
            due("unit of kind " + kind, x.unit(kind, 0, 0), kind);
            due("one of kind " + kind + " is wanted", x.leave(kind), kind + 1);
            due("there is one of it", x.why() == 1 ? 1 : 0, 0);
        }
        due("a fifth", x.unit(0, 0, 0), 4);
        due("a sixth", x.unit(0, 0, 0), FULL);
        due("five came", x.count(0), 5);
    }

    private void work() {
        says("3), needs WASH and FUEL (0 .. 60 minutes each; 0: none).");
        DepotNight x = new DepotNight();
        due("kind 3", x.unit(3, 0, 0), 0);
        due("kind 4", x.unit(4, 0, 0), OUTSIDE);
        for (int wrong : new int[] {-1, 61, LEAST, MOST}) {
            due("wash " + wrong, x.unit(0, wrong, 0), OUTSIDE);
            due("fuel " + wrong, x.unit(0, 0, wrong), OUTSIDE);
        }
        due("60 minutes each", x.unit(0, 60, 60), 1);
        due("60 and none", x.unit(0, 60, 0), 2);
        due("none and 60", x.unit(0, 0, 60), 3);
        due("neither", x.ready(0), 0);
        due("both", x.ready(1), 120);
        due("washed at 120, not fuelled", x.ready(2), 120);
        due("not washed, fuelled at 180", x.ready(3), 180);
    }

    private void tracks() {
        says("TRACKS 0, 1, 2 are dead-ended: what comes on one last goes off first;");
        for (int t = 0; t < 3; t++) {
            DepotNight x = Nights.nightOf(0, 1, 2, 3, 0);
            Nights.parkAll(x, t, t, t, t, t);
            Nights.leaveAll(x, 0, 3, 2, 1, 0);
            checks.stepsAre("the last first off track " + t, x, t, t, t, t, t);
            checks.leaversAre("the last first off track " + t, x, 4, 3, 2, 1, 0);
            x.stay();
            x.leave(1);
            due("not the first first", x.shunts(), 3);
        }
        for (int t : new int[] {-1, 3, LEAST, MOST}) {
            DepotNight x = Nights.nightOf(0);
            due("no track " + t + " to park on", x.park(t), UNKNOWN);
            due("no track " + t + " to look at", x.at(t, 0), UNKNOWN);
            due("no track " + t + " of a length", x.length(t, 1), UNKNOWN);
        }
    }

    private void length() {
        says("each has room for LENGTH units (1 .. 5; 5 at first).");
        for (int t = 0; t < 3; t++) {
            due("5 at first", new DepotNight().length(t, 1), 5);
            for (int room = 1; room <= 5; room++) {
                DepotNight x = Nights.nightOf(0, 0, 0, 0, 0);
                due("length(" + t + ", " + room + ")", x.length(t, room), 5);
                for (int unit = 0; unit < room; unit++) {
                    due("unit " + unit + " of " + room, x.park(t), unit);
                }
                due("one more than " + room, x.park(t), room < 5 ? FULL : NOT);
            }
            for (int room : new int[] {0, 6, -1, LEAST, MOST}) {
                due("length(" + t + ", " + room + ")", new DepotNight().length(t, room), OUTSIDE);
            }
        }
    }

    private void leaving() {
        says("LEAVING is a row of KINDS (5 at most): the first is wanted first, and so on.");
        DepotNight x = Nights.nightOf(0, 1, 2, 3, 3);
        Nights.parkAll(x, 0, 1, 2, 2, 2);
        for (int kind : new int[] {-1, 4, LEAST, MOST}) {
            due("leave(" + kind + ")", x.leave(kind), OUTSIDE);
        }
        int[] kinds = {3, 3, 2, 1, 0};
        for (int i = 0; i < 5; i++) {
            due("leave(" + kinds[i] + ")", x.leave(kinds[i]), i + 1);
        }
        due("a sixth", x.leave(0), FULL);
        checks.leaversAre("as wanted", x, 4, 3, 2, 1, 0);
        x.stay();
        Nights.leaveAll(x, 0, 1, 3, 3, 2);
        checks.leaversAre("as wanted then", x, 0, 1, 4, 3, 2);
    }

    private void broken() {
        says("A UNIT may be BROKEN (none is at first): it does not leave, but stands.");
        DepotNight x = Nights.nightOf(0, 0, 0, 0, 0);
        due("none at first", x.count(3), 0);
        Nights.parkAll(x, 0, 0, 0, 0, 0);
        x.leave(0);
        for (int unit = 4; unit >= 0; unit--) {
            checks.leaversAre("the last that is not broken", x, unit);
            due("was not broken", x.broken(unit, true), 0);
            due("it stands", x.at(0, 4 - unit), unit);
        }
        due("five broken: no run", x.shunts(), NONE);
        due("five broken: why", x.why(), 1);
        x.stay();
        due("five broken that stay are parked all the same", x.clean(), 243);
        DepotNight room = Nights.nightOf(0, 0);
        Nights.lengths(room, 1, 1, 1);
        room.broken(0, true);
        room.leave(0);
        due("a broken one takes room in a parking", room.clean(), 6);
        room.park(0);
        due("a broken one takes room on its track", room.park(0), FULL);
    }

    private void parking() {
        says("A PARKING gives each UNIT a TRACK, in the order in which they come: behind all others there.");
        int[] all = {1, 3, 9, 27, 81, 243};
        DepotNight x = new DepotNight();
        for (int units = 0; units <= 5; units++) {
            due("parkings of " + units, x.clean(), all[units]);
            x.unit(0, 0, 0);
        }
        DepotNight two = Nights.nightOf(0, 1);
        two.leave(0);
        due("unit 1 comes behind unit 0", two.clean(), 6);
        two.stay();
        two.leave(1);
        due("unit 0 does not come behind unit 1", two.clean(), 9);
    }

    private void fits() {
        says("It FITS, if no TRACK has more than its LENGTH.");
        int[][] rows = {
            {1, 1, 1, 1, 3}, {2, 1, 5, 5, 8}, {3, 1, 1, 1, 6}, {4, 1, 1, 1, 0}, {4, 2, 1, 1, 12},
            {5, 2, 1, 1, 0}, {5, 2, 2, 1, 30}, {5, 1, 1, 3, 20}, {5, 1, 5, 1, 31},
            {5, 4, 5, 5, 242}, {5, 5, 4, 5, 242}, {5, 5, 5, 4, 242}, {5, 5, 5, 5, 243}
        };
        for (int[] row : rows) {
            DepotNight x = new DepotNight();
            for (int unit = 0; unit < row[0]; unit++) {
                x.unit(0, 0, 0);
            }
            Nights.lengths(x, row[1], row[2], row[3]);
            due(row[0] + " units, lengths " + row[1] + ", " + row[2] + ", " + row[3], x.clean(), row[4]);
        }
    }

    private void clean() {
        says("It is CLEAN, if it FITS, and one by one a UNIT of each KIND of LEAVING can go off, that is not BROKEN"
            + " and is the last on its TRACK then, by some choice of such UNITS.");
        DepotNight x = Nights.nightOf(1, 0, 0);
        due("of no kind", x.clean(), 27);
        Nights.leaveAll(x, 0, 1);
        due("by some choice", x.clean(), 24);
        x.broken(1, true);
        due("without unit 1", x.clean(), 18);
        x.broken(1, false);
        x.broken(2, true);
        due("without unit 2", x.clean(), 12);
        x.broken(0, true);
        due("without the only one of its kind", x.clean(), 0);
        DepotNight two = Nights.nightOf(0, 1);
        Nights.leaveAll(two, 1, 0);
        due("the last then, when another is gone", two.clean(), 9);
        two.stay();
        Nights.leaveAll(two, 0, 1);
        due("one by one, in their order", two.clean(), 6);
        Nights.lengths(two, 1, 1, 5);
        due("not on one track, and it fits", two.clean(), 6);
        DepotNight five = Nights.nightOf(2, 2, 2, 2, 2);
        Nights.leaveAll(five, 2, 2, 2, 2, 2);
        due("all of five", five.clean(), 243);
    }

    private void order() {
        says("PARKINGS stand in ORDER by the TRACK of UNIT 0, then of UNIT 1, and so on.");
        int[] weights = {81, 27, 9, 3, 1};
        for (int unit = 0; unit < 5; unit++) {
            DepotNight x = Nights.nightOf(0, 0, 0, 0, 0);
            for (int k = 0; k < 243; k++) {
                due("parking(" + k + ", " + unit + ")", x.parking(k, unit), k / weights[unit] % 3);
            }
        }
        DepotNight three = Nights.nightOf(0, 0, 0);
        Nights.lengths(three, 1, 1, 1);
        int[][] rows = {{0, 1, 2}, {0, 2, 1}, {1, 0, 2}, {1, 2, 0}, {2, 0, 1}, {2, 1, 0}};
        for (int k = 0; k < 6; k++) {
            for (int unit = 0; unit < 3; unit++) {
                due("one on each: parking(" + k + ", " + unit + ")", three.parking(k, unit), rows[k][unit]);
            }
        }
    }

    private void why() {
        says("WHY there is no CLEAN PARKING, the first that holds: 1 some KIND is wanted more often than there are"
            + " UNITS of it that are not BROKEN; 2 there are more UNITS than TRACKS have room; 3 no PARKING"
            + " that FITS is CLEAN.");
        for (int kind = 0; kind < 4; kind++) {
            DepotNight x = Nights.nightOf(kind, kind);
            Nights.leaveAll(x, kind, kind);
            due("wanted as often as there are", x.why(), 0);
            x.broken(1, true);
            due("wanted once more than not broken", x.why(), 1);
            x.broken(1, false);
            x.leave(kind);
            due("wanted once more than there are", x.why(), 1);
        }
        DepotNight room = Nights.nightOf(0, 1, 2);
        Nights.lengths(room, 1, 1, 1);
        due("as many as there is room", room.why(), 0);
        room.unit(3, 0, 0);
        due("one more than there is room", room.why(), 2);
        Nights.leaveAll(room, 0, 1, 2, 3);
        due("2 and 3 hold", room.why(), 2);
        for (int t = 0; t < 3; t++) {
            room.length(t, 2);
            due("just room, and 3 holds", room.why(), 3);
            room.length(t, 1);
        }
        room.leave(3);
        due("1, 2 and 3 hold", room.why(), 1);
        room.length(2, 5);
        due("1 and 3 hold", room.why(), 1);
        room.stay();
        Nights.leaveAll(room, 0, 1, 2);
        due("three in their order, the fourth stays", room.why(), 3);
        room.stay();
        Nights.leaveAll(room, 0, 1);
        due("two in their order", room.why(), 0);
        DepotNight none = new DepotNight();
        none.leave(0);
        due("wanted without units", none.why(), 1);
    }

    private void yard() {
        says("2 THE YARD: UNITS stand on TRACKS as they were parked one by one (each as it comes, told).");
        DepotNight x = Nights.nightOf(0, 1);
        Nights.leaveAll(x, 1);
        due("none parked", x.shunts(), NONE);
        x.park(2);
        due("the other is not parked", x.shunts(), NONE);
        due("one stands", x.at(2, 0), 0);
        x.park(2);
        due("both are parked", x.shunts(), 0);
        x.unit(3, 0, 0);
        due("who comes later does not stand yet", x.at(2, 0), 1);
        x.park(2);
        due("now it does", x.at(2, 0), 2);
        due("and is in the way", x.shunts(), 1);
    }

    private void shunt() {
        says("A SHUNT: the last UNIT of a TRACK comes behind all on another TRACK that has room.");
        DepotNight x = Nights.nightOf(0, 1, 2, 3);
        Nights.parkAll(x, 0, 0, 1, 2);
        x.leave(0);
        Nights.lengths(x, 5, 2, 1);
        checks.stepsAre("room for one on track 1", x, 11, 0);
        Nights.lengths(x, 5, 1, 2);
        checks.stepsAre("room for one on track 2", x, 12, 0);
        Nights.lengths(x, 5, 1, 1);
        due("no room", x.shunts(), NONE);
        x.leave(2);
        Nights.lengths(x, 5, 5, 1);
        checks.stepsAre("behind all, so in their way", x, 11, 0, 13, 1);
        DepotNight over = Nights.nightOf(0, 1, 2, 3, 3);
        Nights.parkAll(over, 0, 0, 1, 2, 2);
        over.leave(0);
        Nights.lengths(over, 5, 1, 1);
        due("no room on a track that has too many", over.shunts(), NONE);
        Nights.lengths(over, 1, 1, 3);
        checks.stepsAre("off a track that has too many", over, 12, 0);
        DepotNight five = Nights.nightOf(0, 1, 2, 3, 1);
        Nights.parkAll(five, 2, 2, 2, 2, 2);
        five.leave(0);
        checks.stepsAre("the last one each time", five, 16, 16, 16, 16, 2);
        Nights.lengths(five, 3, 1, 1);
        checks.stepsAre("room just for them", five, 16, 16, 16, 17, 2);
        Nights.lengths(five, 2, 1, 5);
        due("room for one too few", five.shunts(), NONE);
    }

    private void run() {
        says("A RUN is a row of SHUNTS and of goings off by which all of LEAVING leave in their order"
            + " (as above; what else stands there may stay).");
        DepotNight x = Nights.nightOf(0, 1, 2, 3, 0);
        Nights.parkAll(x, 0, 0, 0, 0, 0);
        Nights.lengths(x, 1, 1, 1);
        due("nothing leaves", x.shunts(), 0);
        due("nothing leaves: no step", x.step(0), NONE);
        due("nothing leaves: nobody", x.leaves(0), NONE);
        x.leave(0);
        checks.stepsAre("four stay", x, 0);
        Nights.leaveAll(x, 3, 2, 1, 0);
        checks.stepsAre("none stays", x, 0, 0, 0, 0, 0);
        x.broken(0, true);
        due("not all can leave", x.shunts(), NONE);
        due("not all can leave: no step", x.step(0), NONE);
        due("not all can leave: nobody", x.leaves(0), NONE);
        x.stay();
        Nights.leaveAll(x, 0, 3, 2, 1);
        checks.stepsAre("a broken one stays", x, 0, 0, 0, 0);
        due("without units, nothing leaves", new DepotNight().shunts(), 0);
    }

    private void leastShunts() {
        says("LEAST SHUNTS: the fewest in any RUN.");
        DepotNight x = Nights.nightOf(0, 0, 1, 2, 3);
        Nights.parkAll(x, 0, 0, 0, 0, 0);
        x.broken(1, true);
        Nights.lengths(x, 1, 1, 3);
        Nights.leaveAll(x, 0, 3, 2);
        due("six, the most that five units can need", x.shunts(), 6);
        checks.stepsAre("six", x, 11, 12, 12, 12, 0, 1, 16, 17, 2);
        checks.leaversAre("six", x, 0, 4, 3);
        Nights.lengths(x, 1, 2, 3);
        due("with more room fewer", x.shunts(), 5);
        Nights.lengths(x, 5, 5, 5);
        x.leave(1);
        due("six with all room", x.shunts(), 6);
        checks.stepsAre("six with all room", x, 11, 11, 11, 12, 0, 13, 13, 1, 0, 0);
        checks.leaversAre("six with all room", x, 0, 4, 3, 2);
        x.stay();
        Nights.leaveAll(x, 3, 2, 1, 0);
        due("a broken one in the way", x.shunts(), 1);
        x.broken(1, false);
        due("none", x.shunts(), 0);
    }

    private void firstRun() {
        says("FIRST RUN: of those with the fewest SHUNTS the first, step by step: a going off ahead of a SHUNT;"
            + " of goings off by the lesser TRACK; of SHUNTS by the lesser TRACK from which, then the lesser"
            + " to which it goes.");
        DepotNight going = Nights.nightOf(0, 1, 2);
        Nights.parkAll(going, 2, 0, 0);
        Nights.leaveAll(going, 0, 1);
        checks.stepsAre("a going off ahead of a shunt", going, 2, 11, 0);
        int[][] lesser = {{0, 1, 0}, {1, 0, 0}, {0, 2, 0}, {2, 0, 0}, {1, 2, 1}, {2, 1, 1}};
        for (int[] row : lesser) {
            DepotNight x = Nights.nightOf(0, 0);
            Nights.parkAll(x, row[0], row[1]);
            x.leave(0);
            checks.stepsAre("goings off from " + row[0] + " and " + row[1], x, row[2]);
        }
        DepotNight from = Nights.nightOf(0, 1, 0, 1);
        Nights.parkAll(from, 2, 2, 1, 1);
        from.leave(0);
        checks.stepsAre("the lesser from which", from, 13, 1);
        checks.leaversAre("the lesser from which", from, 2);
        int[][] to = {{0, 11}, {1, 13}, {2, 16}};
        for (int[] row : to) {
            DepotNight x = Nights.nightOf(0, 1);
            Nights.parkAll(x, row[0], row[0]);
            x.leave(0);
            checks.stepsAre("the lesser to which from " + row[0], x, row[1], row[0]);
        }
        DepotNight fewest = Nights.nightOf(1, 0, 0);
        Nights.parkAll(fewest, 1, 1, 0);
        Nights.leaveAll(fewest, 0, 1);
        checks.stepsAre("the fewest ahead of the lesser", fewest, 1, 1);
        DepotNight later = Nights.nightOf(0, 1, 2);
        Nights.parkAll(later, 0, 0, 1);
        Nights.leaveAll(later, 0, 2);
        checks.stepsAre("not the lesser to which, if it costs one more", later, 12, 0, 1);
    }

    private void readyAre(String of, DepotNight x, int... minutes) {
        for (int unit = 0; unit < minutes.length; unit++) {
            due(of + ": ready(" + unit + ")", x.ready(unit), minutes[unit]);
        }
    }

    private void washedAndFuelled() {
        says("3 WASHED is one UNIT at a time, then FUELLED one at a time, both in one ORDER (from minute 0): a UNIT"
            + " is washed as soon as the one ahead of it is, fuelled as soon as it is washed and the one ahead"
            + " of it is fuelled.");
        readyAre("from minute 0", Nights.nightOfWork(0, 7), 7);
        readyAre("fuelled before the next is washed", Nights.nightOfWork(10, 5, 10, 5), 15, 25);
        readyAre("washed before the one ahead is fuelled", Nights.nightOfWork(10, 30, 10, 5), 40, 45);
        readyAre("both at the same minute", Nights.nightOfWork(10, 20, 20, 5), 30, 35);
        readyAre("no overtaking without washing", Nights.nightOfWork(60, 0, 0, 10), 60, 70);
        readyAre("all there is", Nights.nightOfWork(60, 60, 60, 60, 60, 60, 60, 60, 60, 60), 120, 180, 240, 300, 360);
    }

    private void ready() {
        says("READY is a UNIT when it is fuelled (also with 0 minutes).");
        readyAre("no work at all", Nights.nightOfWork(0, 0, 0, 0), 0, 0);
        readyAre("washed alone", Nights.nightOfWork(30, 0), 30);
        readyAre("behind one that is fuelled", Nights.nightOfWork(0, 50, 0, 0), 50, 50);
        readyAre("washed while another is fuelled", Nights.nightOfWork(10, 40, 30, 0), 50, 50);
        readyAre("washed after another is fuelled", Nights.nightOfWork(10, 5, 30, 0), 15, 40);
    }

    private void bestIs(String of, DepotNight x, int ends, int... order) {
        due(of + ": ends()", x.ends(), ends);
        for (int i = 0; i < order.length; i++) {
            due(of + ": best(" + i + ", 0)", x.best(i, 0), order[i]);
        }
        due(of + ": no more places", x.best(order.length, 0), OUTSIDE);
    }

    private void bestOrder() {
        says("BEST ORDER: that with which the last is READY first; of several the first"
            + " (by the first UNIT, then the next).");
        bestIs("none", new DepotNight(), 0);
        bestIs("one", Nights.nightOfWork(20, 30), 50, 0);
        bestIs("the other first", Nights.nightOfWork(30, 10, 10, 30), 50, 1, 0);
        bestIs("as they come", Nights.nightOfWork(10, 20, 20, 10), 40, 0, 1);
        bestIs("all the same", Nights.nightOf(0, 0, 0, 0, 0), 0, 0, 1, 2, 3, 4);
        bestIs("of two the first", Nights.nightOfWork(0, 0, 5, 5), 10, 0, 1);
        bestIs("the first by the next", Nights.nightOfWork(10, 10, 10, 10, 0, 10), 30, 2, 0, 1);
        bestIs("the first by the last two", Nights.nightOfWork(30, 10, 10, 40, 0, 20, 20, 20), 90, 2, 1, 0, 3);
        bestIs("the last of all orders", Nights.nightOfWork(50, 0, 60, 60, 30, 60, 20, 30, 10, 20), 180, 4, 3, 2, 1, 0);
    }

    private void late() {
        says("LATE by an ORDER and a minute d for the i-th of LEAVING d + 10 i: with UNITS leaving as in FIRST RUN,"
            + " those that are READY behind their minutes.");
        DepotNight x = Nights.nightOfWork(0, 20, 0, 10);
        Nights.leaveAll(x, 0, 0);
        Nights.parkAll(x, 0, 1);
        due("ready at their minutes", x.late(0, 20), 0);
        due("ready a minute behind them", x.late(0, 19), 3);
        x.clear();
        Nights.parkAll(x, 1, 0);
        due("leaving the other way round", x.late(0, 20), 2);
        DepotNight five = Nights.nightOfWork(0, 60, 0, 0, 0, 0, 0, 0, 0, 0);
        Nights.leaveAll(five, 0, 0, 0, 0, 0);
        Nights.parkAll(five, 0, 0, 0, 0, 0);
        due("the fifth has 40 minutes more", five.late(0, 20), 30);
        due("the fifth has a minute too few", five.late(0, 19), 31);
        due("the first alone", five.late(0, 59), 16);
        due("nobody", five.late(0, 60), 0);
        five.stay();
        due("nobody leaves, nobody is late", five.late(0, 0), 0);
    }
}
