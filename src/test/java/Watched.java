/**
 * A MovingMesh with each answer compared with the model's, whoever asks. The document says
 * nothing about an object after 512 calls, so no test may lean on more: they are counted.
 */
final class Watched {
    static final int MOST_CALLS = 512;

    private final MovingMesh mesh = new MovingMesh();
    private final MeshModel model = new MeshModel();
    private final Check check;
    private final String name;
    private int calls = 0;

    Watched(Check check, String name) {
        this.check = check;
        this.name = name;
    }

    int calls() {
        return calls;
    }

    private int same(String call, int got, int due, int... with) {
        calls++;
        if (calls == MOST_CALLS + 1) {
            check.due(name + ": calls of one object", calls, MOST_CALLS);
        }
        if (got != due) {
            StringBuilder s = new StringBuilder(name + ", call " + calls + ": " + call + "(");
            for (int i = 0; i < with.length; i++) {
                s.append(i == 0 ? "" : ", ").append(with[i]);
            }
            check.due(s.append(")").toString(), got, due);
        }
        return got;
    }

    private boolean same(String call, boolean got, boolean due, int... with) {
        return same(call, got ? 1 : 0, due ? 1 : 0, with) == 1;
    }

    int write(int b) {
        return same("write", mesh.write(b), model.write(b), b);
    }

    int draft() {
        return same("draft", mesh.draft(), model.draft());
    }

    int post(int source, int goal) {
        return same("post", mesh.post(source, goal), model.post(source, goal), source, goal);
    }

    boolean link(int a, int b, boolean up) {
        return same("link", mesh.link(a, b, up), model.link(a, b, up), a, b, up ? 1 : 0);
    }

    int links(int a) {
        return same("links", mesh.links(a), model.links(a), a);
    }

    int distance(int a, int b) {
        return same("distance", mesh.distance(a, b), model.distance(a, b), a, b);
    }

    boolean disturb(int a, int k, int kind) {
        return same("disturb", mesh.disturb(a, k, kind), model.disturb(a, k, kind), a, k, kind);
    }

    boolean forget(int a) {
        return same("forget", mesh.forget(a), model.forget(a), a);
    }

    int settle() {
        return same("settle", mesh.settle(), model.settle());
    }

    int waiting(int source, int goal) {
        return same("waiting", mesh.waiting(source, goal), model.waiting(source, goal), source, goal);
    }

    int arrived(int source, int goal) {
        return same("arrived", mesh.arrived(source, goal), model.arrived(source, goal), source, goal);
    }

    int length(int source, int goal, int i) {
        return same("length", mesh.length(source, goal, i), model.length(source, goal, i), source, goal, i);
    }

    int byteAt(int both, int i, int k) {
        return same("byteAt", mesh.byteAt(both, i, k), model.byteAt(both, i, k), both, i, k);
    }

    int take(int source, int goal) {
        return same("take", mesh.take(source, goal), model.take(source, goal), source, goal);
    }

    int messages() {
        return same("messages", mesh.messages(), model.messages());
    }

    int ready() {
        return same("ready", mesh.ready(), model.ready());
    }

    // ---- several calls at once

    /** Writes the bytes and posts them; answers what post answers. */
    int send(int source, int goal, int... bytes) {
        for (int b : bytes) {
            write(b);
        }
        return post(source, goal);
    }

    /** Puts up the links of a line through these stations. */
    Watched line(int... stations) {
        for (int i = 1; i < stations.length; i++) {
            link(stations[i - 1], stations[i], true);
        }
        return this;
    }

    Watched longLine() {
        return line(0, 1, 2, 3, 4, 5, 6, 7);
    }

    /** Everybody forgets. */
    void forgetAll() {
        for (int a = 0; a < 8; a++) {
            forget(a);
        }
    }

    /**
     * Asks for all that can be asked for, in at most 330 calls. The bytes of those waiting
     * and of the draft are seen only when all have arrived, so this ends the object's use.
     */
    void seeAll() {
        draft();
        messages();
        ready();
        int[] those = new int[64];
        for (int a = 0; a < 8; a++) {
            links(a);
            for (int b = 0; b < 8; b++) {
                those[a + 8 * b] = waiting(a, b) + arrived(a, b);
            }
        }
        for (int a = 1; a < 8; a++) {
            link(0, a, true);
        }
        settle();
        for (int both = 0; both < 64; both++) {
            for (int i = 0; i < those[both]; i++) {
                int bytes = length(both % 8, both / 8, 0);
                for (int k = 0; k < bytes; k++) {
                    byteAt(both, 0, k);
                }
                take(both % 8, both / 8);
            }
        }
        post(0, 1);
        settle();
        for (int k = 0; k <= 8; k++) {
            byteAt(8, 0, k);
        }
    }
}
