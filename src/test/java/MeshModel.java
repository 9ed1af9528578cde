import java.util.ArrayList;
import java.util.List;

/** What the document promises, said as directly as can be: nobody passes anything on here. */
final class MeshModel {
    private static final int BAD = -1;
    private static final int FULL = -2;

    private static final class Message {
        int source;
        int goal;
        List<Integer> bytes;
        boolean there;
    }

    private final boolean[][] up = new boolean[8][8];
    private final List<Message> all = new ArrayList<>();
    private List<Integer> draft = new ArrayList<>();

    private static boolean ok(int a) {
        return 0 <= a && a <= 7;
    }

    int write(int b) {
        if (b < 0 || b > 255) {
            return BAD;
        }
        if (draft.size() == 8) {
            return FULL;
        }
        draft.add(b);
        return draft.size();
    }

    int draft() {
        return draft.size();
    }

    int post(int source, int goal) {
        if (!ok(source) || !ok(goal) || source == goal) {
            return BAD;
        }
        if (all.size() == 16) {
            return FULL;
        }
        Message m = new Message();
        m.source = source;
        m.goal = goal;
        m.bytes = draft;
        draft = new ArrayList<>();
        all.add(m);
        return all.size();
    }

    boolean link(int a, int b, boolean isUp) {
        if (!ok(a) || !ok(b) || a == b) {
            return false;
        }
        up[a][b] = isUp;
        up[b][a] = isUp;
        return true;
    }

    int links(int a) {
        if (!ok(a)) {
            return BAD;
        }
        int bits = 0;
        for (int b = 0; b < 8; b++) {
            bits += up[a][b] ? 1 << b : 0;
        }
        return bits;
    }

    int distance(int a, int b) {
        if (!ok(a) || !ok(b)) {
            return BAD;
        }
        int[][] d = new int[8][8];
        for (int i = 0; i < 8; i++) {
            for (int j = 0; j < 8; j++) {
                d[i][j] = i == j ? 0 : up[i][j] ? 1 : 100;
            }
        }
        for (int k = 0; k < 8; k++) {
            for (int i = 0; i < 8; i++) {
                for (int j = 0; j < 8; j++) {
                    d[i][j] = Math.min(d[i][j], d[i][k] + d[k][j]);
                }
            }
        }
        return d[a][b] < 100 ? d[a][b] : BAD;
    }

    boolean disturb(int a, int k, int kind) {
        return ok(a) && 0 <= k && k <= 20 && 0 <= kind && kind <= 2;
    }

    boolean forget(int a) {
        return ok(a);
    }

    private boolean canArrive(Message m) {
        return !m.there && distance(m.source, m.goal) != BAD;
    }

    int settle() {
        int count = 0;
        for (Message m : all) {
            if (canArrive(m)) {
                m.there = true;
                count++;
            }
        }
        return count;
    }

    private List<Message> those(int source, int goal, boolean there) {
        List<Message> those = new ArrayList<>();
        for (Message m : all) {
            if (m.source == source && m.goal == goal && m.there == there) {
                those.add(m);
            }
        }
        return those;
    }

    int waiting(int source, int goal) {
        return ok(source) && ok(goal) ? those(source, goal, false).size() : BAD;
    }

    int arrived(int source, int goal) {
        return ok(source) && ok(goal) ? those(source, goal, true).size() : BAD;
    }

    int length(int source, int goal, int i) {
        List<Message> those = those(source, goal, true);
        return 0 <= i && i < those.size() ? those.get(i).bytes.size() : BAD;
    }

    int byteAt(int both, int i, int k) {
        if (both < 0 || both > 63) {
            return BAD;
        }
        List<Message> those = those(both % 8, both / 8, true);
        if (i < 0 || i >= those.size()) {
            return BAD;
        }
        List<Integer> bytes = those.get(i).bytes;
        return 0 <= k && k < bytes.size() ? bytes.get(k) : BAD;
    }

    int take(int source, int goal) {
        List<Message> those = those(source, goal, true);
        if (those.isEmpty()) {
            return BAD;
        }
        all.remove(those.get(0));
        return those.get(0).bytes.size();
    }

    int messages() {
        return all.size();
    }

    int ready() {
        int count = 0;
        for (Message m : all) {
            count += canArrive(m) ? 1 : 0;
        }
        return count;
    }
}
