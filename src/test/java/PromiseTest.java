/** For each promise of the document: ordinary inputs, the edges it names, and wrong inputs. */
public final class PromiseTest {
    private static final int BAD = MovingMesh.BAD;
    private static final int FULL = MovingMesh.FULL;
    private static final int[] NO_STATIONS = {-1, 8, 9, -8, 64, Integer.MAX_VALUE, Integer.MIN_VALUE};
    private static final Check check = new Check();

    public static void main(String[] args) {
        aNewObject();
        write();
        draft();
        post();
        postIsFull();
        link();
        links();
        distance();
        distanceWithManyLinks();
        disturb();
        disturbChangesNoAnswer();
        manyOrders();
        forget();
        forgetKeepsMessages();
        settle();
        settleAfterLinksChanged();
        nothingArrivesByHalfWays();
        waitingAndArrived();
        length();
        byteAt();
        take();
        messages();
        ready();
        check.end();
    }

    private static void writeAll(MovingMesh x, int... bytes) {
        for (int b : bytes) {
            x.write(b);
        }
    }

    private static MovingMesh line() {
        MovingMesh x = new MovingMesh();
        for (int a = 0; a < 7; a++) {
            x.link(a, a + 1, true);
        }
        return x;
    }

    private static void aNewObject() {
        check.due("BAD", BAD, -1);
        check.due("FULL", FULL, -2);
        MovingMesh x = new MovingMesh();
        check.due("1: draft", x.draft(), 0);
        check.due("1: messages", x.messages(), 0);
        check.due("1: ready", x.ready(), 0);
        check.due("1: settle", x.settle(), 0);
        for (int a = 0; a < 8; a++) {
            check.due("1: links " + a, x.links(a), 0);
            for (int b = 0; b < 8; b++) {
                check.due("1: distance", x.distance(a, b), a == b ? 0 : BAD);
                check.due("1: waiting", x.waiting(a, b), 0);
                check.due("1: arrived", x.arrived(a, b), 0);
                check.due("1: length", x.length(a, b, 0), BAD);
                check.due("1: take", x.take(a, b), BAD);
            }
        }
        MovingMesh other = new MovingMesh();
        other.write(1);
        other.link(0, 1, true);
        other.post(0, 1);
        check.due("1: objects are apart, links", x.links(0), 0);
        check.due("1: objects are apart, messages", x.messages(), 0);
    }

    private static void write() {
        MovingMesh x = new MovingMesh();
        int[] bad = {-1, 256, 257, -255, Integer.MAX_VALUE, Integer.MIN_VALUE};
        for (int b : bad) {
            check.due("2: write(" + b + ")", x.write(b), BAD);
        }
        int[] bytes = {0, 255, 1, 254, 127, 128, 0, 200};
        for (int k = 0; k < 8; k++) {
            check.due("2: write", x.write(bytes[k]), k + 1);
        }
        check.due("2: a ninth byte", x.write(5), FULL);
        check.due("2: BAD before FULL", x.write(256), BAD);
        check.due("2: BAD before FULL", x.write(-1), BAD);
        check.due("2: draft is kept", x.draft(), 8);
        x.link(3, 6, true);
        x.post(3, 6);
        check.due("2: after post", x.write(77), 1);
        x.settle();
        for (int k = 0; k < 8; k++) {
            check.due("2: byte " + k, x.byteAt(3 + 8 * 6, 0, k), bytes[k]);
        }
    }

    private static void draft() {
        MovingMesh x = new MovingMesh();
        check.due("3: empty", x.draft(), 0);
        for (int k = 1; k <= 8; k++) {
            x.write(k);
            check.due("3: draft", x.draft(), k);
        }
        x.write(9);
        check.due("3: after FULL", x.draft(), 8);
        x.post(1, 1);
        check.due("3: after a bad post", x.draft(), 8);
        x.post(1, 2);
        check.due("3: after post", x.draft(), 0);
        x.write(300);
        check.due("3: after a bad write", x.draft(), 0);
        x.write(3);
        x.settle();
        x.forget(1);
        check.due("3: after settle and forget", x.draft(), 1);
    }

    private static void post() {
        MovingMesh x = new MovingMesh();
        writeAll(x, 4, 5);
        for (int no : NO_STATIONS) {
            check.due("4: post(" + no + ", 0)", x.post(no, 0), BAD);
            check.due("4: post(0, " + no + ")", x.post(0, no), BAD);
            check.due("4: post(" + no + ", same)", x.post(no, no), BAD);
        }
        for (int a = 0; a < 8; a++) {
            check.due("4: post to itself", x.post(a, a), BAD);
        }
        check.due("4: BAD changes nothing, draft", x.draft(), 2);
        check.due("4: BAD changes nothing, messages", x.messages(), 0);
        check.due("4: post", x.post(7, 0), 1);
        check.due("4: draft", x.draft(), 0);
        check.due("4: post an empty draft", x.post(0, 7), 2);
        x.link(0, 7, true);
        x.settle();
        check.due("4: those there count", x.post(0, 7), 3);
        check.due("4: bytes", x.byteAt(7, 0, 1), 5);
        check.due("4: no bytes", x.length(0, 7, 0), 0);
        x.take(7, 0);
        check.due("4: those taken don't count", x.post(1, 2), 3);
    }

    private static void postIsFull() {
        MovingMesh x = new MovingMesh();
        for (int n = 1; n <= 16; n++) {
            x.write(n);
            check.due("4: post", x.post(n % 8, (n + 3) % 8), n);
        }
        writeAll(x, 1, 2, 3);
        check.due("4: a seventeenth", x.post(0, 1), FULL);
        check.due("4: BAD before FULL", x.post(0, 0), BAD);
        check.due("4: BAD before FULL", x.post(0, 8), BAD);
        check.due("4: FULL changes nothing, draft", x.draft(), 3);
        check.due("4: FULL changes nothing, messages", x.messages(), 16);
        check.due("4: FULL changes nothing, waiting", x.waiting(0, 1), 0);
        for (int a = 1; a < 8; a++) {
            x.link(0, a, true);
        }
        check.due("4: settle sixteen", x.settle(), 16);
        check.due("4: FULL when all are there", x.post(0, 1), FULL);
        check.due("4: take", x.take(1, 4), 1);
        check.due("4: post after take", x.post(0, 1), 16);
        check.due("4: FULL again", x.post(0, 1), FULL);
    }

    private static void link() {
        MovingMesh x = new MovingMesh();
        for (int no : NO_STATIONS) {
            check.due("5: link(" + no + ", 0)", x.link(no, 0, true), false);
            check.due("5: link(0, " + no + ")", x.link(0, no, true), false);
            check.due("5: link(" + no + ", 0) down", x.link(no, 0, false), false);
            check.due("5: link(" + no + ", same)", x.link(no, no, true), false);
        }
        for (int a = 0; a < 8; a++) {
            check.due("5: link to itself", x.link(a, a, true), false);
            check.due("5: link to itself down", x.link(a, a, false), false);
            check.due("5: nothing was put up", x.links(a), 0);
        }
        check.due("5: up", x.link(2, 5, true), true);
        check.due("5: up again", x.link(5, 2, true), true);
        check.due("5: one way", x.links(2), 1 << 5);
        check.due("5: the other way", x.links(5), 1 << 2);
        check.due("5: down from the other end", x.link(5, 2, false), true);
        check.due("5: down again", x.link(2, 5, false), true);
        check.due("5: both ways down", x.links(2) + x.links(5), 0);
        check.due("5: a link that never was up", x.link(0, 7, false), true);
        check.due("5: stays down", x.links(0) + x.links(7), 0);
    }

    private static void links() {
        MovingMesh x = new MovingMesh();
        for (int no : NO_STATIONS) {
            check.due("6: links(" + no + ")", x.links(no), BAD);
        }
        for (int a = 0; a < 8; a++) {
            for (int b = a + 1; b < 8; b++) {
                x.link(a, b, true);
            }
        }
        for (int a = 0; a < 8; a++) {
            check.due("6: all up but its own", x.links(a), 255 - (1 << a));
        }
        x.link(0, 7, false);
        check.due("6: without 7", x.links(0), 126);
        check.due("6: without 0", x.links(7), 126);
        check.due("6: others stay", x.links(3), 255 - 8);
    }

    private static void distance() {
        MovingMesh x = line();
        for (int a = 0; a < 8; a++) {
            for (int b = 0; b < 8; b++) {
                check.due("7: on a line", x.distance(a, b), Math.abs(a - b));
            }
        }
        for (int no : NO_STATIONS) {
            check.due("7: distance(" + no + ", 0)", x.distance(no, 0), BAD);
            check.due("7: distance(0, " + no + ")", x.distance(0, no), BAD);
            check.due("7: distance(" + no + ", same)", x.distance(no, no), BAD);
        }
        x.link(7, 0, true);
        check.due("7: on a ring", x.distance(0, 5), 3);
        check.due("7: on a ring, opposite", x.distance(1, 5), 4);
        x.link(3, 4, false);
        check.due("7: the long way round", x.distance(3, 4), 7);
        x.link(7, 0, false);
        check.due("7: not connected", x.distance(3, 4), BAD);
        check.due("7: not connected, from an end", x.distance(0, 7), BAD);
        check.due("7: to itself", x.distance(4, 4), 0);
        check.due("7: inside a part", x.distance(4, 7), 3);
    }

    private static void distanceWithManyLinks() {
        MovingMesh x = line();
        x.link(0, 4, true);
        check.due("7: by the short cut", x.distance(0, 7), 4);
        check.due("7: by the short cut and back", x.distance(0, 3), 2);
        x.link(0, 7, true);
        check.due("7: at once", x.distance(7, 0), 1);
        x.settle();
        x.forget(0);
        x.disturb(0, 0, 0);
        check.due("7: known all the same", x.distance(0, 6), 2);
    }

    private static void disturb() {
        MovingMesh x = new MovingMesh();
        for (int no : NO_STATIONS) {
            check.due("8: disturb(" + no + ", 0, 0)", x.disturb(no, 0, 0), false);
        }
        int[] noPieces = {-1, 21, 22, Integer.MAX_VALUE, Integer.MIN_VALUE};
        for (int no : noPieces) {
            check.due("8: disturb(0, " + no + ", 0)", x.disturb(0, no, 0), false);
        }
        int[] noKinds = {-1, 3, 4, Integer.MAX_VALUE, Integer.MIN_VALUE};
        for (int no : noKinds) {
            check.due("8: disturb(0, 0, " + no + ")", x.disturb(0, 0, no), false);
        }
        for (int a = 0; a < 8; a++) {
            for (int kind = 0; kind < 3; kind++) {
                check.due("8: the next piece", x.disturb(a, 0, kind), true);
                check.due("8: the last piece", x.disturb(a, 20, kind), true);
            }
        }
    }

    private static void disturbChangesNoAnswer() {
        for (int kind = 0; kind < 3; kind++) {
            for (int k = 0; k <= 20; k++) {
                for (int a = 0; a < 8; a++) {
                    MovingMesh x = line();
                    if (k % 2 == 0) {
                        x.settle();
                    }
                    writeAll(x, 11, 22, 33);
                    x.post(0, 7);
                    x.write(44);
                    x.post(0, 7);
                    x.disturb(a, k, kind);
                    String what = "8: disturb(" + a + ", " + k + ", " + kind + "): ";
                    check.due(what + "ready", x.ready(), 2);
                    check.due(what + "settle", x.settle(), 2);
                    check.due(what + "length", x.length(0, 7, 0), 3);
                    check.due(what + "byte", x.byteAt(56, 0, 2), 33);
                    check.due(what + "next", x.byteAt(56, 1, 0), 44);
                    check.due(what + "once", x.arrived(0, 7), 2);
                    check.due(what + "settle again", x.settle(), 0);
                }
            }
        }
    }

    private static void manyOrders() {
        for (int kind = 0; kind < 3; kind++) {
            MovingMesh x = line();
            x.settle();
            for (int n = 0; n < 200; n++) {
                check.due("8: more than sixteen", x.disturb(n % 3, n % 21, kind), true);
            }
            x.write(1);
            x.post(0, 7);
            check.due("8: settle after many", x.settle(), 1);
            check.due("8: arrived once", x.arrived(0, 7), 1);
        }
        for (int kind = 0; kind < 3; kind++) {
            MovingMesh x = line();
            x.settle();
            for (int k = 0; k < 16; k++) {
                x.disturb(0, k + 5, kind);
            }
            x.post(0, 7);
            check.due("8: sixteen in a row", x.settle(), 1);
        }
    }

    private static void forget() {
        MovingMesh x = new MovingMesh();
        for (int no : NO_STATIONS) {
            check.due("9: forget(" + no + ")", x.forget(no), false);
        }
        for (int a = 0; a < 8; a++) {
            check.due("9: forget", x.forget(a), true);
            check.due("9: forget again", x.forget(a), true);
        }
    }

    private static void forgetKeepsMessages() {
        MovingMesh x = line();
        x.write(9);
        x.post(0, 7);
        x.settle();
        x.write(8);
        x.post(0, 7);
        for (int a = 0; a < 8; a++) {
            x.forget(a);
        }
        check.due("9: those there stay", x.byteAt(56, 0, 0), 9);
        check.due("9: those waiting stay", x.waiting(0, 7), 1);
        check.due("9: links stay", x.links(3), 4 + 16);
        check.due("9: ready", x.ready(), 1);
        check.due("9: settle", x.settle(), 1);
        check.due("9: bytes", x.byteAt(56, 1, 0), 8);
    }

    private static void settle() {
        MovingMesh x = line();
        int n = 0;
        for (int a = 0; a < 8; a++) {
            writeAll(x, a, 100 + a);
            x.post(a, 7 - a);
            x.post(a, (a + 1) % 8);
            n += 2;
        }
        check.due("10: all sixteen", x.settle(), n);
        check.due("10: none is left", x.settle(), 0);
        for (int a = 0; a < 8; a++) {
            check.due("10: arrived", x.byteAt(a + 8 * (7 - a), 0, 1), 100 + a);
            check.due("10: waits no more", x.waiting(a, 7 - a), 0);
        }
        MovingMesh y = new MovingMesh();
        y.link(0, 1, true);
        y.post(0, 1);
        y.post(0, 2);
        y.post(1, 0);
        check.due("10: the connected ones", y.settle(), 2);
        check.due("10: the other waits", y.waiting(0, 2), 1);
        check.due("10: is not there", y.arrived(0, 2), 0);
    }

    private static void settleAfterLinksChanged() {
        MovingMesh x = line();
        x.post(0, 7);
        check.due("10: by the line", x.settle(), 1);
        x.link(3, 4, false);
        x.post(0, 7);
        x.post(7, 0);
        check.due("10: cut in two", x.settle(), 0);
        x.link(0, 7, true);
        check.due("10: by the new link", x.settle(), 2);
        x.post(3, 4);
        check.due("10: the long way round", x.settle(), 1);
        x.link(0, 7, false);
        x.link(3, 4, true);
        x.post(0, 7);
        check.due("10: the old way again", x.settle(), 1);
        check.due("10: in all", x.arrived(0, 7), 3);
    }

    /** Source and goal must be connected at one time; to come nearer bit by bit is not enough. */
    private static void nothingArrivesByHalfWays() {
        MovingMesh x = line();
        x.settle();
        x.link(6, 7, false);
        x.write(5);
        x.post(0, 7);
        check.due("10: cut at the end", x.settle(), 0);
        for (int a = 0; a < 6; a++) {
            x.link(a, a + 1, false);
        }
        x.link(6, 7, true);
        check.due("10: only the last link", x.ready(), 0);
        check.due("10: only the last link", x.settle(), 0);
        x.link(5, 6, true);
        check.due("10: only the last links", x.settle(), 0);
        check.due("10: still waits", x.waiting(0, 7), 1);
        x.link(0, 5, true);
        check.due("10: connected", x.settle(), 1);
        check.due("10: byte", x.byteAt(56, 0, 0), 5);
    }

    private static void waitingAndArrived() {
        MovingMesh x = new MovingMesh();
        for (int no : NO_STATIONS) {
            check.due("11: waiting(" + no + ", 0)", x.waiting(no, 0), BAD);
            check.due("11: waiting(0, " + no + ")", x.waiting(0, no), BAD);
            check.due("12: arrived(" + no + ", 0)", x.arrived(no, 0), BAD);
            check.due("12: arrived(0, " + no + ")", x.arrived(0, no), BAD);
        }
        for (int n = 1; n <= 5; n++) {
            x.post(2, 6);
            check.due("11: waiting", x.waiting(2, 6), n);
            check.due("12: not there yet", x.arrived(2, 6), 0);
        }
        x.post(6, 2);
        check.due("11: the other way", x.waiting(6, 2), 1);
        check.due("11: this way", x.waiting(2, 6), 5);
        check.due("11: another goal", x.waiting(2, 5), 0);
        check.due("11: another source", x.waiting(3, 6), 0);
        check.due("11: the same station", x.waiting(2, 2), 0);
        check.due("12: the same station", x.arrived(2, 2), 0);
        x.link(2, 6, true);
        x.settle();
        check.due("11: none waits", x.waiting(2, 6), 0);
        check.due("12: all are there", x.arrived(2, 6), 5);
        check.due("12: the other way", x.arrived(6, 2), 1);
        x.post(2, 6);
        check.due("11: a new one", x.waiting(2, 6), 1);
        check.due("12: without the new one", x.arrived(2, 6), 5);
        x.take(2, 6);
        check.due("11: take leaves those waiting", x.waiting(2, 6), 1);
        check.due("12: without the one taken", x.arrived(2, 6), 4);
    }

    private static void length() {
        MovingMesh x = line();
        for (int n = 0; n <= 8; n++) {
            for (int k = 0; k < n; k++) {
                x.write(k);
            }
            x.post(1, 5);
            x.post(5, 1);
            x.take(5, 1);
            if (n == 3) {
                x.settle();
                x.take(5, 1);
                x.take(5, 1);
                x.take(5, 1);
                x.take(5, 1);
            }
        }
        check.due("13: waiting ones have none", x.length(1, 5, 4), BAD);
        x.settle();
        for (int n = 0; n <= 8; n++) {
            check.due("13: length of " + n, x.length(1, 5, n), n);
        }
        int[] none = {-1, 9, 10, 16, Integer.MAX_VALUE, Integer.MIN_VALUE};
        for (int i : none) {
            check.due("13: length of " + i, x.length(1, 5, i), BAD);
        }
        check.due("13: the same station", x.length(1, 1, 0), BAD);
        check.due("13: another pair", x.length(1, 4, 0), BAD);
        for (int no : NO_STATIONS) {
            check.due("13: length(" + no + ", 5)", x.length(no, 5, 0), BAD);
            check.due("13: length(1, " + no + ")", x.length(1, no, 0), BAD);
        }
    }

    private static void byteAt() {
        MovingMesh x = line();
        writeAll(x, 10, 20, 255);
        x.post(6, 2);
        writeAll(x, 0, 1, 2, 3, 4, 5, 6, 7);
        x.post(6, 2);
        int both = 6 + 8 * 2;
        check.due("14: while it waits", x.byteAt(both, 0, 0), BAD);
        x.settle();
        check.due("14: first", x.byteAt(both, 0, 0), 10);
        check.due("14: last", x.byteAt(both, 0, 2), 255);
        check.due("14: after the last", x.byteAt(both, 0, 3), BAD);
        for (int k = 0; k < 8; k++) {
            check.due("14: byte " + k, x.byteAt(both, 1, k), k);
        }
        int[] none = {-1, 8, 9, 128, Integer.MAX_VALUE, Integer.MIN_VALUE};
        for (int no : none) {
            check.due("14: byte " + no, x.byteAt(both, 1, no), BAD);
            check.due("14: message " + no, x.byteAt(both, no, 0), BAD);
        }
        check.due("14: message 2", x.byteAt(both, 2, 0), BAD);
        check.due("14: the other way", x.byteAt(2 + 8 * 6, 0, 0), BAD);
        int[] noPair = {-1, 64, both + 64, both - 64, Integer.MAX_VALUE, Integer.MIN_VALUE};
        for (int no : noPair) {
            check.due("14: both " + no, x.byteAt(no, 0, 0), BAD);
        }
        x.post(0, 7);
        x.write(3);
        x.post(7, 6);
        x.settle();
        check.due("14: a message without bytes", x.byteAt(56, 0, 0), BAD);
        check.due("14: the greatest goal but one", x.byteAt(7 + 8 * 6, 0, 0), 3);
    }

    private static void take() {
        MovingMesh x = line();
        writeAll(x, 1, 2);
        x.post(0, 3);
        writeAll(x, 9, 9, 9);
        x.post(4, 3);
        writeAll(x, 5, 6, 7, 8);
        x.post(0, 3);
        check.due("15: none is there yet", x.take(0, 3), BAD);
        x.settle();
        x.post(0, 3);
        check.due("15: first", x.take(0, 3), 2);
        check.due("15: the next is first now", x.byteAt(24, 0, 3), 8);
        check.due("15: the other pair stays", x.byteAt(4 + 24, 0, 2), 9);
        check.due("15: messages", x.messages(), 3);
        check.due("15: second", x.take(0, 3), 4);
        check.due("15: the one that waits is not taken", x.take(0, 3), BAD);
        check.due("15: it still waits", x.waiting(0, 3), 1);
        check.due("15: the other way", x.take(3, 4), BAD);
        check.due("15: the same station", x.take(3, 3), BAD);
        for (int no : NO_STATIONS) {
            check.due("15: take(" + no + ", 3)", x.take(no, 3), BAD);
            check.due("15: take(4, " + no + ")", x.take(4, no), BAD);
        }
        x.settle();
        check.due("15: a message without bytes", x.take(0, 3), 0);
        check.due("15: the last", x.take(4, 3), 3);
        check.due("15: none is left", x.messages(), 0);
    }

    private static void messages() {
        MovingMesh x = new MovingMesh();
        x.link(0, 1, true);
        x.write(1);
        check.due("16: a draft doesn't count", x.messages(), 0);
        x.post(0, 1);
        x.post(0, 2);
        check.due("16: waiting", x.messages(), 2);
        x.settle();
        check.due("16: waiting and there", x.messages(), 2);
        x.take(0, 2);
        check.due("16: nothing was taken", x.messages(), 2);
        x.take(0, 1);
        check.due("16: one was taken", x.messages(), 1);
        x.post(1, 1);
        check.due("16: after a bad post", x.messages(), 1);
    }

    private static void ready() {
        MovingMesh x = new MovingMesh();
        x.post(0, 2);
        x.post(2, 0);
        x.post(3, 4);
        check.due("17: all links are down", x.ready(), 0);
        x.link(0, 1, true);
        check.due("17: half a way", x.ready(), 0);
        x.link(1, 2, true);
        check.due("17: both ways", x.ready(), 2);
        check.due("17: asking changes nothing", x.ready(), 2);
        check.due("17: asking lets none arrive", x.arrived(0, 2), 0);
        x.link(3, 4, true);
        check.due("17: another part", x.ready(), 3);
        x.link(1, 2, false);
        check.due("17: a link went down", x.ready(), 1);
        check.due("17: settle", x.settle(), 1);
        check.due("17: those there don't count", x.ready(), 0);
        x.link(1, 2, true);
        for (int k = 0; k < 16; k++) {
            x.disturb(0, k, 0);
        }
        x.forget(1);
        check.due("17: whatever is disturbed and forgotten", x.ready(), 2);
        check.due("17: settle", x.settle(), 2);
    }
}
