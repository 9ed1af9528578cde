/**
 * Every method with every choice of arguments around the bounds, in several states. After
 * some calls all that can be asked for is compared, so refused calls have changed nothing.
 */
public final class ArgumentsTest {
    private static final int[] VALUES = {
        Edges.MIN, Edges.MIN + 1, -64, -33, -32, -8, -2, -1, 0, 1, 2, 3, 4, 6, 7, 8, 9, 15, 16, 17, 19, 20, 21, 22,
        31, 32, 56, 62, 63, 64, 65, 254, 255, 256, 257, 1 << 28, 1 << 29, Edges.MAX - 1, Edges.MAX};
    private static final int STATES = 6;
    private static final int METHODS = 13;
    // What making a state and seeing it all leave of the 512 calls.
    private static final int CALLS = 80;
    private static final Check check = new Check();

    public static void main(String[] args) {
        for (int state = 0; state < STATES; state++) {
            for (int method = 0; method < METHODS; method++) {
                allArguments(state, method);
            }
        }
        check.end();
    }

    private static void allArguments(int state, int method) {
        int n = VALUES.length;
        int choices = method < 4 ? n : method < 10 ? n * n : n * n * n;
        String name = "state " + state + ", method " + method;
        Watched x = inState(new Watched(check, name), state);
        int left = CALLS;
        for (int i = 0; i < choices && check.wrong() < 20; i++) {
            call(x, method, VALUES[i % n], VALUES[i / n % n], VALUES[i / n / n]);
            left--;
            if (left == 0) {
                x.seeAll();
                x = inState(new Watched(check, name), state);
                left = CALLS;
            }
        }
        x.seeAll();
    }

    private static void call(Watched x, int method, int a, int b, int c) {
        switch (method) {
            case 0 -> x.write(a);
            case 1 -> x.links(a);
            case 2 -> x.forget(a);
            case 3 -> {
                x.draft();
                x.messages();
                x.ready();
            }
            case 4 -> x.post(a, b);
            case 5 -> x.link(a, b, (a ^ b) % 3 != 0);
            case 6 -> x.distance(a, b);
            case 7 -> x.waiting(a, b);
            case 8 -> x.arrived(a, b);
            case 9 -> x.take(a, b);
            case 10 -> x.disturb(a, b, c);
            case 11 -> x.length(a, b, c);
            default -> x.byteAt(a, b, c);
        }
    }

    private static Watched inState(Watched x, int state) {
        switch (state) {
            case 0 -> { }
            case 1 -> messages(x, 15, 0);
            case 2 -> messages(x, 0, 16);
            case 3 -> messages(x.longLine(), 16, 0);
            case 4 -> messages(x.line(0, 7, 1, 6), 8, 8);
            default -> messages(x.longLine(), 2, 3);
        }
        // A draft that is empty, full, or in between.
        for (int k = 0; k < 8 && state % 3 > 0 && k < state % 3 * 4; k++) {
            x.write(200 + k);
        }
        return x;
    }

    private static void messages(Watched x, int there, int waiting) {
        for (int n = 0; n < there; n++) {
            x.send(n % 4 == 0 ? 7 : 0, n % 4 == 0 ? 0 : 7, n);
        }
        x.settle();
        for (int n = 0; n < waiting; n++) {
            x.send(n % 8, 7 - n % 8, 100 + n);
        }
    }
}
