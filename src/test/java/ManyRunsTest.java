/**
 * Runs of up to 512 calls, each answer compared with the model's. The numbers come from a
 * fixed rule, so each time the same runs are made.
 */
public final class ManyRunsTest {
    private static final int RUNS = 1600;
    // What seeing it all in the end leaves.
    private static final int FEWER_CALLS = 180;
    private static final Check check = new Check();

    private static long seed;

    public static void main(String[] args) {
        for (int run = 0; run < RUNS && check.wrong() < 20; run++) {
            seed = run;
            oneRun(run);
        }
        check.end();
    }

    private static int pick(int n) {
        seed = seed * 6364136223846793005L + 1442695040888963407L;
        return (int) ((seed >>> 33) % n);
    }

    /** A station; now and then a number that is none. */
    private static int station() {
        return pick(40) == 0 ? pick(2) * 9 - 1 : pick(8);
    }

    /** Few pairs in a run, so that several messages have the same source and goal. */
    private static int stationOf(int run) {
        return run % 3 == 0 ? station() : pick(30) == 0 ? 8 : pick(2) * 7;
    }

    private static void oneRun(int run) {
        Watched x = new Watched(check, "run " + run);
        int upOf8 = 2 + run % 5;
        boolean seen = run % 2 == 0;
        int most = seen ? FEWER_CALLS : Watched.MOST_CALLS;
        while (x.calls() < most) {
            oneCall(x, run, upOf8);
        }
        if (seen) {
            x.seeAll();
        }
    }

    private static void oneCall(Watched x, int run, int upOf8) {
        int a = station();
        int b = station();
        int source = stationOf(run);
        int goal = stationOf(run);
        switch (pick(25)) {
            case 0, 1, 2 -> x.write(pick(20) == 0 ? pick(2) * 257 - 1 : pick(256));
            case 3 -> x.draft();
            case 4, 5, 6 -> x.post(source, goal);
            case 7, 8, 9 -> x.link(a, b, pick(8) < upOf8);
            case 10 -> x.links(a);
            case 11 -> x.distance(a, b);
            case 12, 13, 14 -> x.disturb(a, pick(23) - 1, pick(20) == 0 ? 3 : pick(3));
            case 15 -> x.forget(a);
            case 16, 17 -> x.settle();
            case 18 -> x.waiting(source, goal);
            case 19 -> x.arrived(source, goal);
            case 20 -> x.length(source, goal, pick(6) - 1);
            case 21 -> x.byteAt(source + 8 * goal, pick(5) - 1, pick(5) - 1);
            case 22 -> x.take(source, goal);
            case 23 -> x.ready();
            default -> x.messages();
        }
    }
}
