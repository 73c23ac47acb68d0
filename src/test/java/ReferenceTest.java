/** Made-up nights, the same at every run: each call's answer is that of Reference. */
public final class ReferenceTest {
    private static final int NIGHTS = 700;
    /** An object answers for 512 calls; these many are kept for the last look at all. */
    private static final int CALLS_BEFORE_LAST_LOOK = 512 - 200;
    private static final int[] EDGES = {
        Integer.MIN_VALUE, Integer.MAX_VALUE, -2, -1, 3, 4, 5, 6, 60, 61, 243, 1000, 1001
    };

    private final Checks checks;
    private final DepotNight night = new DepotNight();
    private final Reference due = new Reference();
    private final String name;
    private long seed;
    private int calls = 0;

    private ReferenceTest(Checks checks, int number) {
        this.checks = checks;
        this.name = "night " + number;
        this.seed = number * 7919L + 13;
    }

    public static void main(String[] args) {
        Checks checks = new Checks("ReferenceTest");
        int nights = args.length > 1 ? Integer.parseInt(args[1]) : NIGHTS;
        for (int n = 0; n < nights && !checks.hasWrong(); n++) {
            ReferenceTest test = new ReferenceTest(checks, n);
            test.begin(n);
            for (int i = 0; i < n % 60 && test.calls < CALLS_BEFORE_LAST_LOOK; i++) {
                test.anyCall();
            }
            test.lookAtAll();
            checks.holds(test.name + ": at most 512 calls", test.calls <= 512);
        }
        checks.end();
    }

    private int below(int bound) {
        seed = seed * 6364136223846793005L + 1442695040888963407L;
        return (int) ((seed >>> 33) % bound);
    }

    private int mostly(int bound) {
        return below(12) == 0 ? EDGES[below(EDGES.length)] : below(bound);
    }

    private void is(String call, int got, int want) {
        calls++;
        checks.due(name + ": " + call, got, want);
    }

    /** Most nights begin with a yard that can be let out, so that runs are more than NONE. */
    private void begin(int number) {
        int units = number % 6;
        int kinds = 1 + below(4);
        int[] kindOf = new int[units];
        for (int u = 0; u < units; u++) {
            kindOf[u] = below(kinds);
            unit(kindOf[u], below(61), below(61));
        }
        for (int i = below(3); i < units; i++) {
            int other = below(units);
            int swap = kindOf[i];
            kindOf[i] = kindOf[other];
            kindOf[other] = swap;
        }
        for (int u = below(2) * below(units + 1); u < units; u++) {
            is("leave(" + kindOf[u] + ")", night.leave(kindOf[u]), due.leave(kindOf[u]));
        }
        for (int t = 0; t < 3 && below(2) == 0; t++) {
            length(t, 1 + below(3));
        }
        int side = below(4);
        for (int u = 0; u < units; u++) {
            park(side < 3 && below(3) > 0 ? side : below(3));
        }
        lookAtAll();
    }

    private void anyCall() {
        switch (below(20)) {
            case 0 -> unit(mostly(4), mostly(61), mostly(61));
            case 1, 2 -> {
                int u = mostly(5);
                boolean is = below(3) == 0;
                is("broken(" + u + ", " + is + ")", night.broken(u, is), due.broken(u, is));
            }
            case 3, 4 -> length(mostly(3), mostly(6));
            case 5 -> {
                int k = mostly(4);
                is("leave(" + k + ")", night.leave(k), due.leave(k));
            }
            case 6 -> {
                if (below(4) == 0) {
                    is("stay()", night.stay(), due.stay());
                }
            }
            case 7, 8, 9, 10 -> park(mostly(3));
            case 11 -> {
                if (below(3) == 0) {
                    is("clear()", night.clear(), due.clear());
                }
            }
            case 12 -> lookAtParkings();
            case 13 -> lookAtYard();
            case 14, 15 -> lookAtRun();
            case 16, 17 -> lookAtWashing();
            default -> {
                int what = mostly(4);
                is("count(" + what + ")", night.count(what), due.count(what));
            }
        }
    }

    private void unit(int kind, int wash, int fuel) {
        is("unit(" + kind + ", " + wash + ", " + fuel + ")",
            night.unit(kind, wash, fuel), due.unit(kind, wash, fuel));
    }

    private void length(int track, int room) {
        is("length(" + track + ", " + room + ")", night.length(track, room), due.length(track, room));
    }

    private void park(int track) {
        is("park(" + track + ")", night.park(track), due.park(track));
    }

    private void lookAtParkings() {
        is("clean()", night.clean(), due.clean());
        int k = mostly(Math.max(1, due.clean()));
        int u = mostly(5);
        is("parking(" + k + ", " + u + ")", night.parking(k, u), due.parking(k, u));
        is("narrow()", night.narrow(), due.narrow());
        is("why()", night.why(), due.why());
    }

    private void lookAtYard() {
        int t = mostly(3);
        int i = mostly(5);
        is("at(" + t + ", " + i + ")", night.at(t, i), due.at(t, i));
    }

    private void lookAtRun() {
        is("shunts()", night.shunts(), due.shunts());
        int i = mostly(12);
        is("step(" + i + ")", night.step(i), due.step(i));
        is("leaves(" + i + ")", night.leaves(i), due.leaves(i));
        int way = mostly(2);
        int d = mostly(250);
        is("late(" + way + ", " + d + ")", night.late(way, d), due.late(way, d));
    }

    private void lookAtWashing() {
        int u = mostly(5);
        int what = mostly(2);
        is("ready(" + u + ")", night.ready(u), due.ready(u));
        is("ends()", night.ends(), due.ends());
        is("best(" + u + ", " + what + ")", night.best(u, what), due.best(u, what));
    }

    private void lookAtAll() {
        lookAtParkings();
        lookAtRun();
        lookAtWashing();
        int clean = due.clean();
        for (int k = 0; k < clean; k += 1 + clean / 20) {
            for (int u = 0; u < 5; u++) {
                is("parking(" + k + ", " + u + ")", night.parking(k, u), due.parking(k, u));
            }
        }
        for (int i = 0; i < 24; i++) {
            is("step(" + i + ")", night.step(i), due.step(i));
        }
        for (int i = 0; i < 6; i++) {
            is("leaves(" + i + ")", night.leaves(i), due.leaves(i));
            is("best(" + i + ", 0)", night.best(i, 0), due.best(i, 0));
            is("best(" + i + ", 1)", night.best(i, 1), due.best(i, 1));
            is("at(" + i / 2 + ", " + i % 2 + ")", night.at(i / 2, i % 2), due.at(i / 2, i % 2));
        }
    }
}
