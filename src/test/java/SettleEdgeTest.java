/** The boundary cases of promise 10. */
public final class SettleEdgeTest {
    private static final int LOST = 0;
    private static final int DELAYED = 2;
    private static final Check check = new Check();

    public static void main(String[] args) {
        noMessages();
        nothingConnected();
        someConnected();
        oneMessage();
        sixteenMessages();
        sixteenFullMessagesOverTheLongestWay();
        theLongestWayInOtherOrders();
        afterEachOrder();
        afterSixteenOrdersForOneStation();
        afterSixteenOrdersForAll();
        afterOrdersThatWaited();
        afterEachForgetting();
        afterOrdersAndForgetting();
        settlingTwice();
        linksThatComeAndGo();
        noOldPieceArrives();
        check.end();
    }

    private static Watched mesh(String name) {
        return new Watched(check, name);
    }

    private static void noMessages() {
        Watched x = mesh("no messages");
        check.due("no messages, no links", x.settle(), 0);
        x.longLine();
        check.due("no messages", x.settle(), 0);
        x.write(1);
        check.due("a draft is no message", x.settle(), 0);
        x.post(0, 1);
        x.settle();
        x.take(0, 1);
        check.due("no messages any more", x.settle(), 0);
        for (int k = 0; k < 16; k++) {
            x.disturb(k % 8, k, k % 3);
        }
        x.forgetAll();
        check.due("no messages, with harm", x.settle(), 0);
        check.due("none came up", x.messages(), 0);
        x.seeAll();
    }

    private static void nothingConnected() {
        Watched x = mesh("nothing connected");
        for (int n = 0; n < 16; n++) {
            // One without bytes waits too.
            if (n % 3 != 0) {
                x.write(n);
            }
            x.post(n % 8, (n + 1 + n / 8) % 8);
        }
        check.due("no links", x.settle(), 0);
        x.line(0, 3).line(1, 4).line(2, 5);
        check.due("links between others", x.settle(), 0);
        check.due("all wait", x.messages() - x.ready(), 16);
        for (int a = 0; a < 8; a++) {
            check.due("none is there", x.arrived(a, (a + 1) % 8), 0);
        }
        x.seeAll();
    }

    private static void someConnected() {
        for (int connected = 0; connected <= 16; connected++) {
            Watched x = mesh("connected " + connected).line(0, 1, 2);
            for (int n = 0; n < 16; n++) {
                x.send(0, n < connected ? 2 : 5, n);
            }
            check.due("those connected", x.settle(), connected);
            check.due("no others", x.waiting(0, 5), 16 - connected);
            x.link(2, 5, true);
            check.due("the others later", x.settle(), 16 - connected);
        }
    }

    private static void oneMessage() {
        for (int length = 0; length <= 8; length++) {
            Watched x = mesh("one of " + length).longLine();
            for (int k = 0; k < length; k++) {
                x.write(255 - k);
            }
            x.post(7, 0);
            check.due("one of " + length, x.settle(), 1);
            check.due("its length", x.length(7, 0, 0), length);
            x.seeAll();
        }
    }

    private static void sixteenMessages() {
        Watched x = mesh("sixteen").line(3, 0, 5, 1, 7);
        for (int n = 0; n < 16; n++) {
            x.post(n % 2 == 0 ? 3 : 7, n % 2 == 0 ? 7 : 3);
        }
        check.due("sixteen", x.settle(), 16);
        check.due("one way", x.arrived(3, 7), 8);
        check.due("the other way", x.arrived(7, 3), 8);
        x.take(3, 7);
        x.post(0, 1);
        check.due("fifteen are there", x.settle(), 1);
        check.due("sixteen are there", x.settle(), 0);
    }

    private static void sixteenFullMessagesOverTheLongestWay() {
        Watched x = mesh("full, the longest way").longLine();
        for (int n = 0; n < 16; n++) {
            x.send(n % 2 * 7, 7 - n % 2 * 7, n, n + 16, n + 32, n + 48, n + 64, n + 80, n + 96, n + 112);
        }
        check.due("settle", x.settle(), 16);
        for (int n = 0; n < 16; n++) {
            for (int k = 0; k < 8; k++) {
                check.due("byte", x.byteAt(n % 2 == 0 ? 56 : 7, n / 2, k), n + 16 * k);
            }
        }
    }

    private static void theLongestWayInOtherOrders() {
        int[][] lines = {
            {7, 6, 5, 4, 3, 2, 1, 0}, {0, 7, 1, 6, 2, 5, 3, 4}, {4, 0, 5, 1, 6, 2, 7, 3}, {3, 6, 1, 4, 7, 2, 5, 0}};
        for (int[] line : lines) {
            Watched x = mesh("another long line").line(line);
            for (int i = 0; i < 8; i++) {
                x.send(line[0], line[7], i);
                x.send(line[i], line[7 - i], 100 + i);
            }
            check.due("settle", x.settle(), 16);
            x.seeAll();
        }
    }

    private static void afterEachOrder() {
        for (int kind = LOST; kind <= DELAYED; kind++) {
            for (int k = 0; k <= 20; k++) {
                for (int a = 0; a < 8; a++) {
                    Watched x = mesh("disturb " + a + " " + k + " " + kind).longLine();
                    if (k % 2 == 0) {
                        // Else nobody knows ways, and the first pieces tell of them.
                        x.settle();
                    }
                    for (int n = 0; n < 16; n++) {
                        x.send(n % 2 * 7, 7 - n % 2 * 7, n, 255 - n);
                    }
                    x.disturb(a, k, kind);
                    check.due("settle", x.settle(), 16);
                    x.seeAll();
                }
            }
        }
    }

    private static void afterSixteenOrdersForOneStation() {
        for (int kind = LOST; kind <= DELAYED; kind++) {
            for (int a = 0; a < 8; a++) {
                for (int first = 0; first <= 5; first++) {
                    Watched x = mesh("all of " + a + " from " + first + ", kind " + kind).longLine();
                    x.send(0, 7, 1, 2, 3);
                    x.send(7, 0, 4);
                    x.settle();
                    x.send(0, 7, 5, 6, 7);
                    x.post(7, 0);
                    for (int k = first; k < first + 16; k++) {
                        x.disturb(a, k, kind);
                    }
                    check.due("settle", x.settle(), 2);
                    x.seeAll();
                }
            }
        }
    }

    private static void afterSixteenOrdersForAll() {
        for (int kind = LOST; kind <= DELAYED; kind++) {
            for (int k = 0; k <= 19; k++) {
                Watched x = mesh("two of all from " + k + ", kind " + kind).longLine();
                if (k % 2 == 1) {
                    x.settle();
                }
                for (int n = 0; n < 16; n++) {
                    x.send(n % 8, (n + 3 + n / 8) % 8, n, n);
                    x.disturb(n % 8, k + n / 8, (kind + n) % 3);
                }
                check.due("settle", x.settle(), 16);
                x.seeAll();
            }
        }
        Watched y = mesh("the last piece sixteen times").longLine();
        for (int n = 0; n < 16; n++) {
            y.send(0, 7, n);
            y.disturb(3, 20, n % 3);
        }
        check.due("settle", y.settle(), 16);
    }

    /** A station without links sends nothing, so its orders wait for later settlings. */
    private static void afterOrdersThatWaited() {
        for (int kind = LOST; kind <= DELAYED; kind++) {
            Watched x = mesh("orders that waited, kind " + kind);
            for (int k = 0; k < 16; k++) {
                x.disturb(k % 2, k, kind);
            }
            for (int n = 0; n < 5; n++) {
                x.settle();
            }
            x.post(0, 7);
            x.longLine();
            check.due("settle", x.settle(), 1);
            x.send(7, 0, 3);
            check.due("settle again", x.settle(), 1);
            x.seeAll();
        }
    }

    private static void afterEachForgetting() {
        for (int mask = 1; mask < 256; mask++) {
            Watched x = mesh("forgotten by " + mask).longLine();
            x.send(0, 7, 1);
            x.settle();
            x.send(0, 7, 2);
            x.send(7, 0, 3);
            x.send(3, 4, 4);
            for (int a = 0; a < 8; a++) {
                if ((mask >> a & 1) == 1) {
                    x.forget(a);
                }
            }
            check.due("settle", x.settle(), 3);
            check.due("the first is there once", x.arrived(0, 7), 2);
            x.seeAll();
        }
    }

    private static void afterOrdersAndForgetting() {
        for (int kind = LOST; kind <= DELAYED; kind++) {
            for (int k = 0; k <= 20; k++) {
                for (int a = 0; a < 8; a++) {
                    Watched x = mesh("forget and disturb " + a + " " + k + " " + kind).longLine();
                    x.settle();
                    // What was known of the long way is wrong now.
                    x.link(3, 4, false);
                    x.link(0, 7, true);
                    x.send(3, 4, 1, 2);
                    x.send(4, 3, 3);
                    x.forget(a);
                    x.disturb((a + 1) % 8, k, kind);
                    x.disturb(a, k, (kind + 1) % 3);
                    x.disturb(a, 20 - k, (kind + 2) % 3);
                    x.forget((a + 1) % 8);
                    check.due("settle", x.settle(), 2);
                    x.seeAll();
                }
            }
        }
    }

    private static void settlingTwice() {
        Watched x = mesh("twice").longLine();
        for (int n = 0; n < 16; n++) {
            x.send(n % 7, 7, n);
        }
        check.due("all", x.settle(), 16);
        for (int n = 0; n < 20; n++) {
            x.disturb(n % 8, n, n % 3);
            x.forget(n % 8);
            check.due("none arrives again", x.settle(), 0);
        }
        check.due("none came up", x.messages(), 16);
        x.seeAll();
    }

    /** The two stations are connected in other ways each time, or not at all. */
    private static void linksThatComeAndGo() {
        Watched x = mesh("come and go");
        int due = 0;
        for (int n = 0; n < 16; n++) {
            x.send(0, 7, n);
            due++;
            int by = 1 + n % 6;
            x.link(0, by, true);
            x.link(by, 7, n % 3 != 0);
            boolean connected = n % 3 != 0;
            check.due("ready", x.ready(), connected ? due : 0);
            check.due("settle", x.settle(), connected ? due : 0);
            due = connected ? 0 : due;
            x.link(0, by, false);
            x.link(by, 7, false);
        }
        for (int i = 0; i < 15; i++) {
            check.due("in order", x.byteAt(56, i, 0), i);
        }
        x.seeAll();
    }

    /** Pieces are sent while half of the way is up, then the other half is; never both. */
    private static void noOldPieceArrives() {
        for (int kind = LOST; kind <= DELAYED; kind++) {
            for (int by = 1; by < 7; by++) {
                Watched x = mesh("half ways, kind " + kind + ", by " + by).longLine();
                x.settle();
                x.link(by, by + 1, false);
                x.send(0, 7, 1, 2, 3);
                x.send(7, 0, 4);
                for (int k = 0; k < 16; k++) {
                    x.disturb(k % 2 == 0 ? 0 : by, k, kind);
                }
                check.due("the first half", x.settle(), 0);
                x.link(by, by + 1, true);
                x.link(by - 1, by, false);
                check.due("the second half", x.settle(), 0);
                x.link(by, by + 1, false);
                x.link(by - 1, by, true);
                check.due("the first half again", x.settle(), 0);
                x.link(by, by + 1, true);
                check.due("both", x.settle(), 2);
                x.seeAll();
            }
        }
    }
}
