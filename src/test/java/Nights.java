/** Ways to make a night ready for a test, and to look at all that it answers. */
final class Nights {
    private Nights() {
    }

    /** Units of these kinds, without work. */
    static DepotNight nightOf(int... kinds) {
        DepotNight x = new DepotNight();
        for (int kind : kinds) {
            x.unit(kind, 0, 0);
        }
        return x;
    }

    /** Units of kind 0 with this work: wash, fuel, wash, fuel, and so on. */
    static DepotNight nightOfWork(int... minutes) {
        DepotNight x = new DepotNight();
        for (int i = 0; i + 1 < minutes.length; i += 2) {
            x.unit(0, minutes[i], minutes[i + 1]);
        }
        return x;
    }

    static void leaveAll(DepotNight x, int... kinds) {
        for (int kind : kinds) {
            x.leave(kind);
        }
    }

    static void parkAll(DepotNight x, int... tracks) {
        for (int track : tracks) {
            x.park(track);
        }
    }

    static void lengths(DepotNight x, int first, int second, int third) {
        x.length(0, first);
        x.length(1, second);
        x.length(2, third);
    }

    /** All that a night answers, in some 200 calls of the 512 for which it is used. */
    static String look(DepotNight x) {
        StringBuilder seen = new StringBuilder();
        lookAtParkings(x, seen);
        lookAtYard(x, seen);
        lookAtWashing(x, seen);
        return seen.toString();
    }

    private static void lookAtParkings(DepotNight x, StringBuilder seen) {
        for (int what = 0; what < 4; what++) {
            seen.append(" count ").append(x.count(what));
        }
        int clean = x.clean();
        seen.append(" clean ").append(clean).append(" narrow ").append(x.narrow()).append(" why ").append(x.why());
        for (int k = 0; k < clean; k += 1 + clean / 12) {
            for (int unit = 0; unit < 5; unit++) {
                seen.append(' ').append(x.parking(k, unit));
            }
        }
    }

    private static void lookAtYard(DepotNight x, StringBuilder seen) {
        for (int track = 0; track < 3; track++) {
            seen.append(" track ").append(track);
            for (int i = 0; i < 6; i++) {
                seen.append(' ').append(x.at(track, i));
            }
            int length = x.length(track, 5);
            x.length(track, length);
            seen.append(" length ").append(length);
        }
        seen.append(" shunts ").append(x.shunts());
        for (int i = 0; i < 13; i++) {
            seen.append(" step ").append(x.step(i));
        }
        for (int i = 0; i < 6; i++) {
            seen.append(" leaves ").append(x.leaves(i));
        }
    }

    private static void lookAtWashing(DepotNight x, StringBuilder seen) {
        seen.append(" ends ").append(x.ends());
        for (int unit = 0; unit < 5; unit++) {
            seen.append(" ready ").append(x.ready(unit));
            seen.append(" best ").append(x.best(unit, 0)).append(' ').append(x.best(unit, 1));
        }
        for (int way = 0; way < 2; way++) {
            for (int d = 0; d <= 200; d += 40) {
                seen.append(" late ").append(x.late(way, d));
            }
        }
    }
}
