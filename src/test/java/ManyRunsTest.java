/**
 * Runs of 512 calls, each answer compared with the model's. The numbers come from a fixed
 * rule, so each time the same runs are made.
 */
public final class ManyRunsTest {
    private static final int RUNS = 1200;
    private static final int CALLS = 512;
    private static final Check check = new Check();

    private static long seed;

    public static void main(String[] args) {
        for (int run = 0; run < RUNS && check.wrong() < 20; run++) {
            seed = run;
            oneRun(run);
        }
        check.end();
    }

    private static int pick(int n) {
        seed = seed * 6364136223846793005L + 1442695040888963407L;
        return (int) ((seed >>> 33) % n);
    }

    /** A station; now and then a number that is none. */
    private static int station() {
        return pick(40) == 0 ? pick(2) * 9 - 1 : pick(8);
    }

    /** Few pairs in a run, so that several messages have the same source and goal. */
    private static int stationOf(int run) {
        return run % 3 == 0 ? station() : pick(30) == 0 ? 8 : pick(2) * 7;
    }

    private static void oneRun(int run) {
        MovingMesh x = new MovingMesh();
        MeshModel y = new MeshModel();
        int upOf8 = 2 + run % 5;
        for (int call = 0; call < CALLS; call++) {
            String at = "run " + run + ", call " + call + ": ";
            int a = station();
            int b = station();
            int source = stationOf(run);
            int goal = stationOf(run);
            switch (pick(24)) {
                case 0, 1, 2 -> {
                    int v = pick(20) == 0 ? pick(2) * 257 - 1 : pick(256);
                    check.due(at + "write", x.write(v), y.write(v));
                }
                case 3 -> check.due(at + "draft", x.draft(), y.draft());
                case 4, 5, 6 -> check.due(at + "post", x.post(source, goal), y.post(source, goal));
                case 7, 8, 9 -> {
                    boolean up = pick(8) < upOf8;
                    check.due(at + "link", x.link(a, b, up), y.link(a, b, up));
                }
                case 10 -> check.due(at + "links", x.links(a), y.links(a));
                case 11 -> check.due(at + "distance", x.distance(a, b), y.distance(a, b));
                case 12, 13, 14 -> {
                    int k = pick(23) - 1;
                    int kind = pick(20) == 0 ? 3 : pick(3);
                    check.due(at + "disturb", x.disturb(a, k, kind), y.disturb(a, k, kind));
                }
                case 15 -> check.due(at + "forget", x.forget(a), y.forget(a));
                case 16, 17 -> {
                    check.due(at + "ready", x.ready(), y.ready());
                    check.due(at + "settle", x.settle(), y.settle());
                }
                case 18 -> check.due(at + "waiting", x.waiting(source, goal), y.waiting(source, goal));
                case 19 -> check.due(at + "arrived", x.arrived(source, goal), y.arrived(source, goal));
                case 20 -> {
                    int i = pick(6) - 1;
                    check.due(at + "length", x.length(source, goal, i), y.length(source, goal, i));
                }
                case 21 -> {
                    int both = source + 8 * goal;
                    int i = pick(5) - 1;
                    int k = pick(5) - 1;
                    check.due(at + "byteAt", x.byteAt(both, i, k), y.byteAt(both, i, k));
                }
                case 22 -> check.due(at + "take", x.take(source, goal), y.take(source, goal));
                default -> check.due(at + "messages", x.messages(), y.messages());
            }
        }
        everythingSeen(run, x, y);
    }

    private static void everythingSeen(int run, MovingMesh x, MeshModel y) {
        String at = "run " + run + ", in the end: ";
        for (int both = 0; both < 64; both++) {
            int source = both % 8;
            int goal = both / 8;
            check.due(at + "waiting", x.waiting(source, goal), y.waiting(source, goal));
            check.due(at + "arrived", x.arrived(source, goal), y.arrived(source, goal));
            for (int i = 0; i < y.arrived(source, goal); i++) {
                check.due(at + "length", x.length(source, goal, i), y.length(source, goal, i));
                for (int k = 0; k < 8; k++) {
                    check.due(at + "byteAt", x.byteAt(both, i, k), y.byteAt(both, i, k));
                }
            }
        }
    }
}
