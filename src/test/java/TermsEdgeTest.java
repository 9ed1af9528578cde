/** The boundary cases in "What it is" and "Terms": a method for each sentence. */
public final class TermsEdgeTest {
    private static final int BAD = MovingMesh.BAD;
    private static final int FULL = MovingMesh.FULL;
    private static final Check check = new Check();

    public static void main(String[] args) {
        theCall512IsAnswered();
        noLaterCallThrows();
        stationsAre0To7();
        aLinkIsBetweenAnyTwo();
        allLinksAreDownAtFirst();
        aLinkCarriesBothWays();
        connectedFromStationToStation();
        theLeastNumberOfLinks();
        theDistanceToItselfIs0();
        aGoalIsAnotherStation();
        atMostEightBytesInAMessage();
        aByteIs0To255();
        thereIsOneDraft();
        itWaitsUntilItArrives();
        itIsThereUntilItIsTaken();
        atMostSixteenWait();
        atMostSixteenAreThere();
        atMostSixteenWaitOrAreThere();
        theyArriveInTheOrderOfPosting();
        theOrderHoldsOverSeveralSettlings();
        everyConnectedOneArrives();
        noAnswerDependsOnHarm();
        check.end();
    }

    private static Watched mesh(String name) {
        return new Watched(check, name);
    }

    /** Has used as many calls as are named; they change nothing. */
    private static Watched used(String name, int calls) {
        Watched x = mesh(name);
        for (int n = 0; n < calls; n++) {
            if (n % 3 == 0) {
                x.settle();
            } else if (n % 3 == 1) {
                x.disturb(n % 8, n % 21, n / 3 % 3);
            } else {
                x.forget(n % 8);
            }
        }
        return x;
    }

    private static void theCall512IsAnswered() {
        Watched x = used("call 512", 512 - 9 - 7 - 16 - 1);
        for (int k = 0; k < 9; k++) {
            x.write(k);
        }
        x.longLine();
        for (int n = 0; n < 16; n++) {
            x.post(n % 2 * 7, 7 - n % 2 * 7);
        }
        check.due("512: settle", x.settle(), 16);
        check.due("512: calls", x.calls(), 512);

        Watched y = used("call 512, write", 511);
        check.due("512: write", y.write(255), 1);
        Watched z = used("call 512, take", 512 - 1 - 9 - 1 - 1);
        z.link(7, 6, true);
        z.send(7, 6, 1, 2, 3, 4, 5, 6, 7, 8);
        z.settle();
        check.due("512: take", z.take(7, 6), 8);
        check.due("512: calls", z.calls(), 512);
        Watched d = used("call 512, distance", 512 - 7 - 1).longLine();
        check.due("512: distance", d.distance(7, 0), 7);
        check.due("512: calls", d.calls(), 512);
    }

    /** What later calls answer is free, but LANGUAGE.md lets none throw or run on. */
    private static void noLaterCallThrows() {
        MovingMesh x = new MovingMesh();
        int[] some = {0, 7, 3, -1, 8, 20, 21, 255, 256, Edges.MIN, Edges.MAX};
        for (int n = 0; n < 400; n++) {
            int a = some[n % some.length];
            int b = some[n / some.length % some.length];
            int c = some[n / 7 % some.length];
            x.write(a);
            x.draft();
            x.post(a, b);
            x.link(a, b, n % 3 != 0);
            x.links(a);
            x.distance(a, b);
            x.disturb(a, b, c);
            x.disturb(n % 8, n % 21, n % 3);
            x.forget(a);
            x.settle();
            x.waiting(a, b);
            x.arrived(a, b);
            x.length(a, b, c);
            x.byteAt(a, b, c);
            if (n % 40 == 0) {
                x.take(a, b);
            }
            x.messages();
            x.ready();
        }
        check.due("after 512 calls", true, true);
    }

    private static void stationsAre0To7() {
        for (int a = 0; a < 8; a++) {
            int b = 7 - a;
            Watched x = mesh("station " + a);
            check.due("stations: link", x.link(a, b, true), true);
            check.due("stations: links", x.links(a), 1 << b);
            check.due("stations: distance", x.distance(a, b), 1);
            check.due("stations: disturb", x.disturb(a, 0, 0), true);
            check.due("stations: forget", x.forget(a), true);
            check.due("stations: post", x.post(a, b), 1);
            check.due("stations: waiting", x.waiting(a, b), 1);
            check.due("stations: settle", x.settle(), 1);
            check.due("stations: arrived", x.arrived(a, b), 1);
            check.due("stations: length", x.length(a, b, 0), 0);
            check.due("stations: take", x.take(a, b), 0);
        }
        for (int no : Edges.NO_STATIONS) {
            Watched x = mesh("no station " + no);
            check.due("no station: link", x.link(no, 0, true) || x.link(7, no, true), false);
            check.due("no station: links", x.links(no), BAD);
            check.due("no station: distance", x.distance(no, 0), BAD);
            check.due("no station: distance", x.distance(7, no), BAD);
            check.due("no station: disturb", x.disturb(no, 0, 0), false);
            check.due("no station: forget", x.forget(no), false);
            check.due("no station: post", x.post(no, 0), BAD);
            check.due("no station: post", x.post(7, no), BAD);
            check.due("no station: waiting", x.waiting(no, 0), BAD);
            check.due("no station: arrived", x.arrived(7, no), BAD);
            x.seeAll();
        }
    }

    private static void aLinkIsBetweenAnyTwo() {
        Watched x = mesh("any two");
        for (int a = 0; a < 8; a++) {
            for (int b = 0; b < 8; b++) {
                check.due("link " + a + " " + b, x.link(a, b, true), a != b);
                if (a != b) {
                    check.due("just this one, from " + a, x.links(a), 1 << b);
                    check.due("just this one, from " + b, x.links(b), 1 << a);
                    x.link(a, b, false);
                }
            }
        }
    }

    private static void allLinksAreDownAtFirst() {
        Watched x = mesh("down at first");
        for (int a = 0; a < 8; a++) {
            check.due("down at first", x.links(a), 0);
        }
    }

    private static void aLinkCarriesBothWays() {
        for (int a = 0; a < 8; a++) {
            for (int b = 0; b < 8; b++) {
                if (a != b) {
                    Watched x = mesh("both ways");
                    x.link(a, b, true);
                    x.send(a, b, 1);
                    x.send(b, a, 2);
                    check.due("both ways: settle", x.settle(), 2);
                    check.due("one way", x.byteAt(a + 8 * b, 0, 0), 1);
                    check.due("the other way", x.byteAt(b + 8 * a, 0, 0), 2);
                }
            }
        }
    }

    private static void connectedFromStationToStation() {
        Watched x = mesh("connected").longLine();
        check.due("end to end", x.distance(0, 7), 7);
        for (int cut = 0; cut < 7; cut++) {
            x.link(cut, cut + 1, false);
            check.due("cut after " + cut, x.distance(0, 7), BAD);
            check.due("before the cut", x.distance(0, cut), cut);
            check.due("behind the cut", x.distance(cut + 1, 7), 6 - cut);
            x.link(cut + 1, cut, true);
        }
        check.due("end to end again", x.distance(7, 0), 7);
    }

    private static void theLeastNumberOfLinks() {
        Watched x = mesh("least").longLine();
        x.link(7, 0, true);
        for (int a = 0; a < 8; a++) {
            for (int b = 0; b < 8; b++) {
                int there = (b - a + 8) % 8;
                check.due("the shorter way round", x.distance(a, b), Math.min(there, 8 - there));
            }
        }
        x.link(0, 4, true);
        check.due("a short cut", x.distance(7, 5), 2);
        check.due("over the short cut", x.distance(0, 4), 1);
        check.due("over the short cut and on", x.distance(7, 3), 3);
    }

    private static void theDistanceToItselfIs0() {
        Watched x = mesh("to itself");
        for (int a = 0; a < 8; a++) {
            check.due("without a link", x.distance(a, a), 0);
        }
        x.longLine();
        x.link(0, 7, true);
        for (int a = 0; a < 8; a++) {
            check.due("with links", x.distance(a, a), 0);
        }
    }

    private static void aGoalIsAnotherStation() {
        Watched x = mesh("another").longLine();
        x.write(1);
        for (int a = 0; a < 8; a++) {
            check.due("to itself", x.post(a, a), BAD);
        }
        check.due("no message", x.messages(), 0);
        check.due("to the next", x.post(0, 1), 1);
    }

    private static void atMostEightBytesInAMessage() {
        for (int n = 0; n <= 9; n++) {
            Watched x = mesh("bytes " + n);
            x.link(0, 1, true);
            for (int k = 0; k < n; k++) {
                check.due("byte " + k, x.write(10 + k), k < 8 ? k + 1 : FULL);
            }
            x.post(0, 1);
            x.settle();
            int length = Math.min(n, 8);
            check.due("length", x.length(0, 1, 0), length);
            for (int k = 0; k <= 8; k++) {
                check.due("byte " + k + " of " + length, x.byteAt(8, 0, k), k < length ? 10 + k : BAD);
            }
        }
    }

    private static void aByteIs0To255() {
        for (int half = 0; half < 2; half++) {
            Watched x = mesh("values").line(6, 1, 3);
            for (int n = 0; n < 16; n++) {
                for (int k = 0; k < 8; k++) {
                    check.due("write", x.write(half * 128 + n * 8 + k), k + 1);
                }
                x.post(6, 3);
            }
            x.settle();
            for (int v = 0; v < 128; v++) {
                check.due("value", x.byteAt(6 + 8 * 3, v / 8, v % 8), half * 128 + v);
            }
        }
    }

    private static void thereIsOneDraft() {
        Watched x = mesh("one draft");
        x.link(0, 1, true);
        x.write(1);
        x.write(2);
        x.post(0, 1);
        check.due("emptied", x.draft(), 0);
        check.due("the next begins anew", x.write(3), 1);
        x.post(1, 0);
        x.settle();
        check.due("first", x.length(0, 1, 0), 2);
        check.due("second", x.length(1, 0, 0), 1);
        check.due("its byte", x.byteAt(1, 0, 0), 3);
        check.due("no more of the first", x.byteAt(1, 0, 1), BAD);
    }

    private static void itWaitsUntilItArrives() {
        Watched x = mesh("waits");
        x.send(2, 4, 9);
        for (int n = 0; n < 5; n++) {
            check.due("nothing arrives", x.settle(), 0);
            check.due("waits", x.waiting(2, 4), 1);
            check.due("not there", x.arrived(2, 4), 0);
        }
        x.link(2, 4, true);
        check.due("waits till settling", x.waiting(2, 4), 1);
        check.due("arrives", x.settle(), 1);
        check.due("waits no more", x.waiting(2, 4), 0);
        check.due("is there", x.arrived(2, 4), 1);
    }

    private static void itIsThereUntilItIsTaken() {
        Watched x = mesh("there");
        x.link(2, 4, true);
        x.send(2, 4, 9);
        x.settle();
        x.link(2, 4, false);
        x.forgetAll();
        for (int n = 0; n < 16; n++) {
            x.disturb(2 + n % 2 * 2, n, n % 3);
        }
        check.due("arrives once", x.settle(), 0);
        x.link(2, 4, true);
        check.due("arrives once", x.settle(), 0);
        check.due("is there", x.byteAt(2 + 8 * 4, 0, 0), 9);
        check.due("taken", x.take(2, 4), 1);
        check.due("no more there", x.arrived(2, 4), 0);
        check.due("taken once", x.take(2, 4), BAD);
        check.due("doesn't come again", x.settle(), 0);
        check.due("none", x.messages(), 0);
    }

    private static void atMostSixteenWait() {
        Watched x = mesh("sixteen wait");
        for (int n = 1; n <= 16; n++) {
            check.due("post", x.post(n % 8, (n + 1) % 8), n);
        }
        check.due("the seventeenth", x.post(0, 1), FULL);
        check.due("messages", x.messages(), 16);
    }

    private static void atMostSixteenAreThere() {
        Watched x = mesh("sixteen there");
        x.link(3, 5, true);
        for (int n = 1; n <= 16; n++) {
            check.due("post", x.post(3, 5), n);
            check.due("settle", x.settle(), 1);
        }
        check.due("there", x.arrived(3, 5), 16);
        check.due("the seventeenth", x.post(3, 5), FULL);
        check.due("another pair", x.post(0, 1), FULL);
        check.due("take", x.take(3, 5), 0);
        check.due("room for one", x.post(0, 1), 16);
        check.due("and no more", x.post(0, 1), FULL);
    }

    private static void atMostSixteenWaitOrAreThere() {
        for (int there = 0; there <= 16; there++) {
            Watched x = mesh("there " + there);
            x.link(3, 5, true);
            for (int n = 0; n < there; n++) {
                x.post(3, 5);
            }
            check.due("settle", x.settle(), there);
            for (int n = there; n < 16; n++) {
                check.due("post", x.post(5, 6), n + 1);
            }
            check.due("there", x.arrived(3, 5), there);
            check.due("waiting", x.waiting(5, 6), 16 - there);
            check.due("the seventeenth", x.post(5, 6), FULL);
            check.due("messages", x.messages(), 16);
        }
    }

    private static void theyArriveInTheOrderOfPosting() {
        Watched x = mesh("order").longLine();
        for (int n = 0; n < 16; n++) {
            // Shorter ones after longer ones, which need fewer pieces.
            int length = n % 3 == 0 ? 8 : n % 3;
            for (int k = 0; k < length; k++) {
                x.write(100 + n);
            }
            x.post(0, 7);
        }
        for (int n = 0; n < 16; n++) {
            x.disturb(n % 7, n, n % 3);
        }
        check.due("settle", x.settle(), 16);
        for (int n = 0; n < 16; n++) {
            check.due("message " + n, x.byteAt(56, n, 0), 100 + n);
        }
        for (int n = 0; n < 16; n++) {
            check.due("taken in order", x.take(0, 7), n % 3 == 0 ? 8 : n % 3);
        }
    }

    private static void theOrderHoldsOverSeveralSettlings() {
        Watched x = mesh("order over settlings").line(0, 1, 2);
        int first = 0;
        int next = 0;
        for (int n = 0; n < 8; n++) {
            x.link(1, 2, n % 2 == 0);
            x.send(0, 2, next++);
            x.send(2, 0, 200);
            x.send(0, 2, next++);
            x.settle();
            if (n % 2 == 0 && n > 0) {
                check.due("first", x.byteAt(16, 0, 0), first);
                check.due("last", x.byteAt(16, x.arrived(0, 2) - 1, 0), next - 1);
                x.take(0, 2);
                x.take(2, 0);
                x.take(2, 0);
                first++;
            }
        }
        x.seeAll();
    }

    private static void everyConnectedOneArrives() {
        int[] four = {0, 3, 5, 7};
        for (int links = 0; links < 64; links++) {
            Watched x = mesh("links " + links);
            int bit = 0;
            for (int i = 0; i < 4; i++) {
                for (int j = i + 1; j < 4; j++) {
                    x.link(four[i], four[j], (links >> bit & 1) == 1);
                    bit++;
                }
            }
            for (int i = 0; i < 4; i++) {
                for (int j = 0; j < 4; j++) {
                    if (i != j) {
                        x.send(four[i], four[j], 16 * i + j);
                    }
                }
            }
            int ready = x.ready();
            check.due("as many as are ready", x.settle(), ready);
            check.due("no more are ready", x.ready(), 0);
            x.seeAll();
        }
    }

    /** The same calls with and without harm; the harm stands between them. */
    private static void noAnswerDependsOnHarm() {
        String calm = answersWithHarm(-1);
        for (int harm = 0; harm < 40; harm++) {
            String answers = answersWithHarm(harm);
            if (!answers.equals(calm)) {
                System.out.println("without harm: " + calm);
                System.out.println("harm " + harm + ":   " + answers);
            }
            check.due("harm " + harm + " changes no answer", answers.equals(calm), true);
        }
    }

    private static String answersWithHarm(int harm) {
        Watched x = mesh("harm " + harm);
        StringBuilder answers = new StringBuilder();
        int[][] links = {{0, 1}, {1, 2}, {2, 3}, {3, 4}, {4, 5}, {5, 6}, {6, 7}, {0, 7}, {2, 6}};
        for (int step = 0; step < 24; step++) {
            int[] link = links[step * 4 % 9];
            answers.append(x.link(link[0], link[1], step < 9 || step % 3 != 0));
            answers.append(' ').append(x.send(step % 8, (step * 3 + 1) % 8, step, 255 - step));
            harm(x, harm, step);
            answers.append(' ').append(x.ready());
            answers.append(' ').append(x.settle());
            answers.append(' ').append(x.distance(step % 8, 7));
            answers.append(' ').append(x.arrived(0, 1));
            answers.append(' ').append(x.byteAt(8, 0, 1));
            answers.append(' ').append(x.take(step * 5 % 8, (step * 15 + 1) % 8));
            answers.append(' ').append(x.messages()).append('\n');
        }
        return answers.toString();
    }

    private static void harm(Watched x, int harm, int step) {
        for (int n = 0; harm >= 0 && n < 8; n++) {
            int a = (harm * 3 + step + n * (harm % 3)) % 8;
            if (harm % 5 == 4 && n < 4) {
                x.forget(a);
            } else {
                x.disturb(a, (harm + step * n) % 21, (harm + n * (harm % 2)) % 3);
            }
        }
    }
}
