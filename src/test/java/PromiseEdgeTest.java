/**
 * The boundary cases in promises 1 to 9 and 11 to 17 (those of 10 are in SettleEdgeTest): a
 * method for each sentence, named after its promise.
 */
public final class PromiseEdgeTest {
    private static final int BAD = MovingMesh.BAD;
    private static final int FULL = MovingMesh.FULL;
    private static final int[] EIGHT = {1, 2, 3, 4, 5, 6, 7, 8};
    private static final Check check = new Check();

    public static void main(String[] args) {
        p1AllLinksAreDown();
        p1NoMessages();
        p1AnEmptyDraft();
        p2BadWhenNoByte();
        p2FullWhenItHasEight();
        p2BadIsTestedBeforeFull();
        p2RefusedKeepsTheDraft();
        p3DraftEmptyAndFull();
        p4BadWhenNoStation();
        p4BadWhenTheSame();
        p4FullWhenThereAreSixteen();
        p4FullChangesNothing();
        p4BadIsTestedBeforeFull();
        p4WhereItAnswersBadNothingIsPosted();
        p4AnEmptyDraft();
        p4AFullDraft();
        p5FalseWhenNoStation();
        p5FalseWhenTheSame();
        p5UpTwiceAndDownTwice();
        p6BadWhenNoStation();
        p6NoLinksAndAllLinks();
        p7BadWhenNoStation();
        p7BadWhenNotConnected();
        p7TheLeastAndTheGreatest();
        p8FalseWhenNoStation();
        p8FalseWhenNoPiece();
        p8FalseWhenNoKind();
        p8TheLeastAndTheGreatest();
        p8AtMostSixteenOrders();
        p8FalseHasNoOtherGround();
        p9FalseWhenNoStation();
        p9ForgettingNothingAndTwice();
        p11BadWhenNoStation();
        p11NoneAndSixteen();
        p12BadWhenNoStation();
        p12NoneAndSixteen();
        p12BadHasNoOtherGround();
        p13BadWhenThereIsNone();
        p13BadWhenNoStation();
        p13TheShortestAndTheLongest();
        p14BadWhenNoPair();
        p14BadWhenNoSuchMessage();
        p14BadWhenNoSuchByte();
        p14BothIsSourcePlus8Goal();
        p15BadWhenThereIsNone();
        p15BadWhenNoStation();
        p15TheFirstTheMiddleTheLast();
        p15NoBytesOfOneTakenAreSeen();
        p16NoneAndSixteen();
        p17NoneAndSixteen();
        check.end();
    }

    private static Watched mesh(String name) {
        return new Watched(check, name);
    }

    /** Sixteen messages wait from 0 to 1; they aren't connected. */
    private static Watched full(String name) {
        Watched x = mesh(name);
        for (int n = 0; n < 16; n++) {
            x.send(0, 1, n);
        }
        return x;
    }

    // ---- promise 1

    private static void p1AllLinksAreDown() {
        Watched x = mesh("1: links");
        for (int a = 0; a < 8; a++) {
            check.due("1: links", x.links(a), 0);
            for (int b = 0; b < 8; b++) {
                check.due("1: distance", x.distance(a, b), a == b ? 0 : BAD);
            }
        }
    }

    private static void p1NoMessages() {
        Watched x = mesh("1: messages");
        check.due("1: messages", x.messages(), 0);
        check.due("1: ready", x.ready(), 0);
        check.due("1: settle", x.settle(), 0);
        for (int both = 0; both < 64; both++) {
            check.due("1: waiting", x.waiting(both % 8, both / 8), 0);
            check.due("1: arrived", x.arrived(both % 8, both / 8), 0);
            check.due("1: length", x.length(both % 8, both / 8, 0), BAD);
            check.due("1: byteAt", x.byteAt(both, 0, 0), BAD);
            check.due("1: take", x.take(both % 8, both / 8), BAD);
        }
    }

    private static void p1AnEmptyDraft() {
        Watched x = mesh("1: draft");
        check.due("1: draft", x.draft(), 0);
        x.link(0, 1, true);
        x.post(0, 1);
        x.settle();
        check.due("1: posted at once", x.length(0, 1, 0), 0);
        check.due("1: the first byte", mesh("1: write").write(0), 1);
    }

    // ---- promises 2 and 3

    private static void p2BadWhenNoByte() {
        for (int no : Edges.NO_BYTES) {
            Watched x = mesh("2: write(" + no + ")");
            check.due("2: no byte " + no, x.write(no), BAD);
            x.send(0, 1, 5, 6);
            x.write(7);
            check.due("2: no byte " + no, x.write(no), BAD);
            x.seeAll();
        }
        for (int b : Edges.BYTES) {
            Watched x = mesh("2: write(" + b + ")");
            x.link(0, 1, true);
            check.due("2: byte " + b, x.write(b), 1);
            x.post(0, 1);
            x.settle();
            check.due("2: read again", x.byteAt(8, 0, 0), b);
        }
    }

    private static void p2FullWhenItHasEight() {
        Watched x = mesh("2: full");
        for (int k = 1; k <= 8; k++) {
            check.due("2: byte " + k, x.write(255), k);
        }
        check.due("2: the ninth", x.write(0), FULL);
        check.due("2: the tenth", x.write(255), FULL);
        x.post(0, 1);
        check.due("2: room again", x.write(0), 1);
    }

    private static void p2BadIsTestedBeforeFull() {
        Watched x = mesh("2: order");
        for (int b : EIGHT) {
            x.write(b);
        }
        for (int no : Edges.NO_BYTES) {
            check.due("2: BAD before FULL", x.write(no), BAD);
        }
        for (int b : Edges.BYTES) {
            check.due("2: FULL", x.write(b), FULL);
        }
    }

    private static void p2RefusedKeepsTheDraft() {
        Watched x = mesh("2: refused");
        for (int b : EIGHT) {
            x.write(b);
        }
        x.write(99);
        x.write(-1);
        x.write(256);
        check.due("2: length", x.draft(), 8);
        x.link(0, 1, true);
        x.post(0, 1);
        x.settle();
        for (int k = 0; k < 8; k++) {
            check.due("2: byte " + k, x.byteAt(8, 0, k), EIGHT[k]);
        }
    }

    private static void p3DraftEmptyAndFull() {
        Watched x = mesh("3");
        check.due("3: empty", x.draft(), 0);
        x.write(-1);
        check.due("3: empty after BAD", x.draft(), 0);
        for (int k = 1; k <= 8; k++) {
            x.write(0);
            check.due("3: draft", x.draft(), k);
            check.due("3: asking changes nothing", x.draft(), k);
        }
        x.write(0);
        check.due("3: full after FULL", x.draft(), 8);
        x.post(8, 0);
        check.due("3: full after a bad post", x.draft(), 8);
        x.post(0, 1);
        check.due("3: empty after post", x.draft(), 0);
        x.post(0, 1);
        check.due("3: empty after an empty post", x.draft(), 0);
    }

    // ---- promise 4

    private static void p4BadWhenNoStation() {
        for (int no : Edges.NO_STATIONS) {
            Watched x = mesh("4: no station " + no);
            x.write(3);
            for (int a = 0; a < 8; a += 7) {
                check.due("4: no source " + no, x.post(no, a), BAD);
                check.due("4: no goal " + no, x.post(a, no), BAD);
            }
            check.due("4: neither", x.post(no, no), BAD);
            check.due("4: no message", x.messages(), 0);
            check.due("4: the draft stays", x.draft(), 1);
            x.seeAll();
        }
        check.due("4: the least and the greatest station", mesh("4").post(0, 7), 1);
        check.due("4: the greatest and the least station", mesh("4").post(7, 0), 1);
    }

    private static void p4BadWhenTheSame() {
        Watched x = mesh("4: the same");
        for (int a = 0; a < 8; a++) {
            check.due("4: the same", x.post(a, a), BAD);
            check.due("4: no message", x.messages(), 0);
        }
        for (int a = 0; a < 7; a++) {
            check.due("4: its neighbour", x.post(a, a + 1), 2 * a + 1);
            check.due("4: its neighbour", x.post(a + 1, a), 2 * a + 2);
        }
    }

    private static void p4FullWhenThereAreSixteen() {
        Watched x = mesh("4: sixteen");
        for (int n = 1; n <= 15; n++) {
            x.post(6, 7);
        }
        check.due("4: the sixteenth", x.post(7, 6), 16);
        check.due("4: the seventeenth", x.post(7, 6), FULL);
        x.link(6, 7, true);
        x.settle();
        check.due("4: when all are there", x.post(0, 1), FULL);
        x.take(7, 6);
        check.due("4: when one was taken", x.post(0, 1), 16);
        check.due("4: again", x.post(0, 1), FULL);
    }

    private static void p4FullChangesNothing() {
        Watched x = full("4: full");
        for (int b : EIGHT) {
            x.write(b);
        }
        check.due("4: FULL", x.post(0, 1), FULL);
        check.due("4: FULL", x.post(6, 7), FULL);
        check.due("4: the draft", x.draft(), 8);
        check.due("4: messages", x.messages(), 16);
        check.due("4: waiting", x.waiting(0, 1), 16);
        check.due("4: not waiting", x.waiting(6, 7), 0);
        x.link(0, 1, true);
        x.settle();
        x.take(0, 1);
        check.due("4: posted later", x.post(0, 1), 16);
        x.settle();
        check.due("4: with its bytes", x.byteAt(8, 15, 7), 8);
        check.due("4: after the others", x.byteAt(8, 14, 0), 15);
    }

    private static void p4BadIsTestedBeforeFull() {
        Watched x = full("4: order");
        for (int a = 0; a < 8; a++) {
            check.due("4: BAD before FULL, the same", x.post(a, a), BAD);
        }
        for (int no : Edges.NO_STATIONS) {
            check.due("4: BAD before FULL, no source", x.post(no, 0), BAD);
            check.due("4: BAD before FULL, no goal", x.post(0, no), BAD);
        }
        check.due("4: FULL", x.post(0, 7), FULL);
        check.due("4: FULL", x.post(7, 0), FULL);
        x.seeAll();
    }

    /** The draft is emptied by posting it, so it stays where nothing is posted. */
    private static void p4WhereItAnswersBadNothingIsPosted() {
        for (int length = 0; length <= 8; length++) {
            Watched x = length % 2 == 0 ? mesh("4: BAD") : full("4: BAD when full");
            for (int k = 0; k < length; k++) {
                x.write(50 + k);
            }
            int before = x.messages();
            for (int a = 0; a < 8; a++) {
                check.due("4: to itself", x.post(a, a), BAD);
            }
            check.due("4: no source", x.post(8, 0), BAD);
            check.due("4: no goal", x.post(0, -1), BAD);
            check.due("4: nothing is posted", x.messages(), before);
            check.due("4: the draft stays", x.draft(), length);
            x.link(0, 1, true);
            x.settle();
            x.take(0, 1);
            x.post(1, 0);
            x.settle();
            check.due("4: all its bytes are posted later", x.length(1, 0, 0), length);
            for (int k = 0; k < length; k++) {
                check.due("4: byte " + k, x.byteAt(1, 0, k), 50 + k);
            }
        }
    }

    private static void p4AnEmptyDraft() {
        Watched x = mesh("4: empty");
        check.due("4: an empty draft", x.post(0, 7), 1);
        check.due("4: it waits as others do", x.settle(), 0);
        check.due("4: it waits as others do", x.waiting(0, 7), 1);
        x.longLine();
        x.send(0, 7, 5);
        check.due("4: empty again", x.post(0, 7), 3);
        check.due("4: all arrive", x.settle(), 3);
        check.due("4: length", x.length(0, 7, 0), 0);
        check.due("4: no byte", x.byteAt(56, 0, 0), BAD);
        check.due("4: no byte of one posted before", x.byteAt(56, 2, 0), BAD);
        check.due("4: take", x.take(0, 7), 0);
        check.due("4: take", x.take(0, 7), 1);
        check.due("4: take", x.take(0, 7), 0);
        check.due("4: all taken", x.take(0, 7), BAD);
    }

    private static void p4AFullDraft() {
        Watched x = mesh("4: full drafts").longLine();
        for (int n = 1; n <= 16; n++) {
            check.due("4: post", x.send(7, 0, n, 0, n, 255, n, 1, n, 100 + n), n);
        }
        check.due("4: settle", x.settle(), 16);
        for (int n = 1; n <= 16; n++) {
            check.due("4: length", x.length(7, 0, n - 1), 8);
            check.due("4: first byte", x.byteAt(7, n - 1, 0), n);
            check.due("4: last byte", x.byteAt(7, n - 1, 7), 100 + n);
        }
    }

    // ---- promises 5, 6 and 7

    private static void p5FalseWhenNoStation() {
        for (int no : Edges.NO_STATIONS) {
            Watched x = mesh("5: no station " + no).line(0, 7, 3);
            for (int a = 0; a < 8; a++) {
                check.due("5: from " + no, x.link(no, a, true), false);
                check.due("5: to " + no, x.link(a, no, true), false);
                check.due("5: down from " + no, x.link(no, a, false), false);
                check.due("5: down to " + no, x.link(a, no, false), false);
            }
            check.due("5: neither", x.link(no, no, true), false);
            check.due("5: nothing changed", x.links(7), 1 + 8);
            x.seeAll();
        }
    }

    private static void p5FalseWhenTheSame() {
        Watched x = mesh("5: the same").longLine();
        for (int a = 0; a < 8; a++) {
            int before = x.links(a);
            check.due("5: up to itself", x.link(a, a, true), false);
            check.due("5: nothing changed", x.links(a), before);
            check.due("5: down to itself", x.link(a, a, false), false);
            check.due("5: nothing changed", x.links(a), before);
        }
    }

    private static void p5UpTwiceAndDownTwice() {
        Watched x = mesh("5: twice");
        check.due("5: down already", x.link(0, 7, false), true);
        check.due("5: still down", x.links(0), 0);
        check.due("5: up", x.link(0, 7, true), true);
        check.due("5: up already", x.link(7, 0, true), true);
        check.due("5: still up", x.links(0), 128);
        check.due("5: still up", x.links(7), 1);
        check.due("5: down", x.link(7, 0, false), true);
        check.due("5: down at both ends", x.links(0) + x.links(7), 0);
        check.due("5: down already", x.link(0, 7, false), true);
        check.due("5: still down", x.distance(0, 7), BAD);
    }

    private static void p6BadWhenNoStation() {
        Watched x = mesh("6").longLine();
        for (int no : Edges.NO_STATIONS) {
            check.due("6: links(" + no + ")", x.links(no), BAD);
        }
        check.due("6: the least station", x.links(0), 2);
        check.due("6: the greatest station", x.links(7), 64);
    }

    private static void p6NoLinksAndAllLinks() {
        Watched x = mesh("6: all");
        for (int a = 0; a < 8; a++) {
            for (int b = 0; b < a; b++) {
                x.link(a, b, true);
            }
        }
        for (int a = 0; a < 8; a++) {
            check.due("6: all but itself", x.links(a), 255 - (1 << a));
        }
        for (int b = 0; b < 7; b++) {
            x.link(7, b, false);
        }
        check.due("6: none", x.links(7), 0);
        check.due("6: the others'", x.links(0), 255 - 128 - 1);
    }

    private static void p7BadWhenNoStation() {
        Watched x = mesh("7: no station").longLine();
        for (int no : Edges.NO_STATIONS) {
            check.due("7: from " + no, x.distance(no, 0), BAD);
            check.due("7: to " + no, x.distance(0, no), BAD);
            check.due("7: from " + no, x.distance(no, 7), BAD);
            check.due("7: to " + no, x.distance(7, no), BAD);
            check.due("7: from " + no + " to itself", x.distance(no, no), BAD);
        }
    }

    private static void p7BadWhenNotConnected() {
        Watched x = mesh("7: two parts").line(0, 2, 4, 6).line(1, 3, 5, 7);
        for (int a = 0; a < 8; a++) {
            for (int b = 0; b < 8; b++) {
                int due = (a + b) % 2 == 1 ? BAD : Math.abs(a - b) / 2;
                check.due("7: distance(" + a + ", " + b + ")", x.distance(a, b), due);
            }
        }
        x.link(6, 7, true);
        check.due("7: connected", x.distance(0, 1), 7);
        x.link(2, 4, false);
        check.due("7: not connected any more", x.distance(0, 1), BAD);
    }

    private static void p7TheLeastAndTheGreatest() {
        int[][] lines = {{0, 1, 2, 3, 4, 5, 6, 7}, {7, 0, 6, 1, 5, 2, 4, 3}, {3, 6, 1, 4, 7, 2, 5, 0}};
        for (int[] line : lines) {
            Watched x = mesh("7: line").line(line);
            for (int i = 0; i < 8; i++) {
                for (int j = 0; j < 8; j++) {
                    check.due("7: on a line", x.distance(line[i], line[j]), Math.abs(i - j));
                }
            }
        }
    }

    // ---- promises 8 and 9

    private static void p8FalseWhenNoStation() {
        for (int no : Edges.NO_STATIONS) {
            Watched x = mesh("8: no station " + no).longLine();
            x.send(0, 7, 1);
            for (int k : Edges.PIECES) {
                for (int kind = 0; kind < 3; kind++) {
                    check.due("8: station " + no, x.disturb(no, k, kind), false);
                }
            }
            x.seeAll();
        }
    }

    private static void p8FalseWhenNoPiece() {
        for (int no : Edges.NO_PIECES) {
            Watched x = mesh("8: no piece " + no).longLine();
            x.send(0, 7, 1);
            for (int a = 0; a < 8; a++) {
                for (int kind = 0; kind < 3; kind++) {
                    check.due("8: piece " + no, x.disturb(a, no, kind), false);
                }
            }
            x.seeAll();
        }
    }

    private static void p8FalseWhenNoKind() {
        for (int no : Edges.NO_KINDS) {
            Watched x = mesh("8: no kind " + no).longLine();
            x.send(0, 7, 1);
            for (int a = 0; a < 8; a++) {
                for (int k : Edges.PIECES) {
                    check.due("8: kind " + no, x.disturb(a, k, no), false);
                }
            }
            x.seeAll();
        }
    }

    private static void p8TheLeastAndTheGreatest() {
        for (int a = 0; a < 8; a++) {
            for (int k : Edges.PIECES) {
                for (int kind = 0; kind < 3; kind++) {
                    check.due("8: disturb", mesh("8").disturb(a, k, kind), true);
                }
            }
        }
    }

    /** That the seventeenth is not remembered is seen in InsideTest alone: no answer tells. */
    private static void p8AtMostSixteenOrders() {
        for (int orders = 15; orders <= 18; orders++) {
            for (int kind = 0; kind < 3; kind++) {
                Watched x = mesh("8: orders " + orders).longLine();
                for (int n = 0; n < orders; n++) {
                    check.due("8: order " + n, x.disturb(n % 2, n, kind), true);
                }
                check.due("8: wrong ones stay wrong", x.disturb(8, 0, 0), false);
                x.send(0, 7, 1, 2);
                x.send(1, 7, 3);
                check.due("8: settle", x.settle(), 2);
                check.due("8: byte", x.byteAt(56, 0, 1), 2);
                check.due("8: room again", x.disturb(0, 0, kind), true);
                x.seeAll();
            }
        }
    }

    /** All right orders there are, most of them when sixteen are remembered already. */
    private static void p8FalseHasNoOtherGround() {
        Watched x = mesh("8: all orders");
        for (int k = 0; k <= 20; k++) {
            for (int a = 0; a < 8; a++) {
                for (int kind = 0; kind < 3; kind++) {
                    check.due("8: disturb(" + a + ", " + k + ", " + kind + ")", x.disturb(a, k, kind), true);
                }
            }
        }
        x.link(0, 7, true);
        x.send(0, 7, 5);
        check.due("8: settle after all orders", x.settle(), 1);
        check.due("8: byte after all orders", x.byteAt(56, 0, 0), 5);
    }

    private static void p9FalseWhenNoStation() {
        for (int no : Edges.NO_STATIONS) {
            Watched x = mesh("9: no station " + no).line(0, 1, 7);
            x.send(0, 7, 1);
            x.settle();
            x.send(7, 0, 2);
            check.due("9: forget(" + no + ")", x.forget(no), false);
            x.seeAll();
        }
    }

    private static void p9ForgettingNothingAndTwice() {
        for (int a = 0; a < 8; a++) {
            Watched x = mesh("9: forget " + a);
            check.due("9: nothing to forget", x.forget(a), true);
            check.due("9: again", x.forget(a), true);
            x.longLine();
            x.send(0, 7, 1);
            x.settle();
            x.send(0, 7, 2);
            check.due("9: forget", x.forget(a), true);
            check.due("9: twice", x.forget(a), true);
            check.due("9: settle", x.settle(), 1);
            x.forget(a);
            x.seeAll();
        }
    }

    // ---- promises 11 and 12

    private static void p11BadWhenNoStation() {
        Watched x = full("11");
        for (int no : Edges.NO_STATIONS) {
            check.due("11: source " + no, x.waiting(no, 1), BAD);
            check.due("11: goal " + no, x.waiting(0, no), BAD);
            check.due("11: neither", x.waiting(no, no), BAD);
        }
    }

    private static void p11NoneAndSixteen() {
        Watched x = full("11: sixteen");
        check.due("11: sixteen", x.waiting(0, 1), 16);
        check.due("11: the other way none", x.waiting(1, 0), 0);
        check.due("11: the least and the greatest", x.waiting(0, 7), 0);
        check.due("11: the greatest and the least", x.waiting(7, 0), 0);
        for (int a = 0; a < 8; a++) {
            check.due("11: to itself none", x.waiting(a, a), 0);
        }
        x.settle();
        check.due("11: still sixteen", x.waiting(0, 1), 16);
        x.link(0, 1, true);
        x.settle();
        check.due("11: none", x.waiting(0, 1), 0);
    }

    private static void p12BadWhenNoStation() {
        Watched x = full("12");
        x.link(0, 1, true);
        x.settle();
        for (int no : Edges.NO_STATIONS) {
            check.due("12: source " + no, x.arrived(no, 1), BAD);
            check.due("12: goal " + no, x.arrived(0, no), BAD);
            check.due("12: neither", x.arrived(no, no), BAD);
        }
    }

    private static void p12NoneAndSixteen() {
        Watched x = full("12: sixteen");
        check.due("12: none", x.arrived(0, 1), 0);
        x.link(0, 1, true);
        x.settle();
        check.due("12: sixteen", x.arrived(0, 1), 16);
        check.due("12: the other way none", x.arrived(1, 0), 0);
        for (int a = 0; a < 8; a++) {
            check.due("12: to itself none", x.arrived(a, a), 0);
        }
        for (int n = 15; n >= 0; n--) {
            x.take(0, 1);
            check.due("12: one less", x.arrived(0, 1), n);
        }
    }

    /** Not that the stations are the same, nor that they aren't connected, nor that none is there. */
    private static void p12BadHasNoOtherGround() {
        Watched x = mesh("12: any two").line(0, 3, 7);
        x.send(0, 7, 1);
        x.send(1, 2, 2);
        x.settle();
        x.link(3, 7, false);
        for (int a = 0; a < 8; a++) {
            for (int b = 0; b < 8; b++) {
                boolean there = a == 0 && b == 7;
                boolean waits = a == 1 && b == 2;
                check.due("12: arrived(" + a + ", " + b + ")", x.arrived(a, b), there ? 1 : 0);
                check.due("11: waiting(" + a + ", " + b + ")", x.waiting(a, b), waits ? 1 : 0);
            }
        }
    }

    // ---- promises 13 and 14

    private static void p13BadWhenThereIsNone() {
        Watched x = mesh("13: none").line(0, 1, 2);
        check.due("13: no message at all", x.length(0, 1, 0), BAD);
        x.send(0, 1, 1);
        check.due("13: it waits", x.length(0, 1, 0), BAD);
        x.settle();
        check.due("13: it is there", x.length(0, 1, 0), 1);
        check.due("13: no second one", x.length(0, 1, 1), BAD);
        check.due("13: none before it", x.length(0, 1, -1), BAD);
        for (int no : Edges.NO_MESSAGES) {
            check.due("13: message " + no, x.length(0, 1, no), BAD);
        }
        check.due("13: another goal", x.length(0, 2, 0), BAD);
        check.due("13: the other way", x.length(1, 0, 0), BAD);
        check.due("13: to itself", x.length(1, 1, 0), BAD);
        x.send(0, 1, 1, 2);
        check.due("13: the second one waits", x.length(0, 1, 1), BAD);
        x.take(0, 1);
        check.due("13: it was taken", x.length(0, 1, 0), BAD);
        Watched y = full("13: sixteen");
        y.link(0, 1, true);
        y.settle();
        check.due("13: the sixteenth", y.length(0, 1, 15), 1);
        for (int no : Edges.NO_MESSAGES) {
            check.due("13: message " + no + " of sixteen", y.length(0, 1, no), BAD);
        }
    }

    private static void p13BadWhenNoStation() {
        Watched x = full("13: no station");
        x.link(0, 1, true);
        x.settle();
        for (int no : Edges.NO_STATIONS) {
            check.due("13: source " + no, x.length(no, 1, 0), BAD);
            check.due("13: goal " + no, x.length(0, no, 0), BAD);
            check.due("13: neither", x.length(no, no, 0), BAD);
        }
    }

    private static void p13TheShortestAndTheLongest() {
        Watched x = mesh("13: lengths").longLine();
        for (int n = 0; n <= 8; n++) {
            for (int k = 0; k < n; k++) {
                x.write(k);
            }
            x.post(7, 0);
        }
        x.settle();
        for (int n = 0; n <= 8; n++) {
            check.due("13: length", x.length(7, 0, n), n);
            check.due("13: its last byte", x.byteAt(7, n, n - 1), n == 0 ? BAD : n - 1);
            check.due("13: none behind", x.byteAt(7, n, n), BAD);
        }
    }

    /** Each two stations have a message with two bytes that tell them, sixteen at a time. */
    private static void p14BothIsSourcePlus8Goal() {
        for (int from = 0; from < 64; from += 16) {
            Watched x = mesh("14: both from " + from).longLine();
            for (int both = from; both < from + 16; both++) {
                if (both % 8 != both / 8) {
                    x.send(both % 8, both / 8, both % 8, both / 8);
                }
            }
            x.settle();
            for (int both = 0; both < 64; both++) {
                boolean posted = both / 16 * 16 == from && both % 8 != both / 8;
                check.due("14: source of " + both, x.byteAt(both, 0, 0), posted ? both % 8 : BAD);
                check.due("14: goal of " + both, x.byteAt(both, 0, 1), posted ? both / 8 : BAD);
            }
        }
    }

    private static void p14BadWhenNoPair() {
        Watched x = mesh("14: no pair").longLine();
        x.send(1, 0, 11);
        x.send(6, 7, 22);
        x.send(0, 1, 33);
        x.settle();
        check.due("14: the least pair", x.byteAt(1, 0, 0), 11);
        check.due("14: the greatest pair", x.byteAt(62, 0, 0), 22);
        check.due("14: 8 is 0 and 1", x.byteAt(8, 0, 0), 33);
        check.due("14: 0 to itself", x.byteAt(0, 0, 0), BAD);
        check.due("14: 7 to itself", x.byteAt(63, 0, 0), BAD);
        for (int no : Edges.NO_PAIRS) {
            check.due("14: both " + no, x.byteAt(no, 0, 0), BAD);
        }
        for (int pair : new int[] {1, 62, 8}) {
            for (int turn = 64; turn != 0; turn <<= 1) {
                check.due("14: too great by " + turn, x.byteAt(pair + turn, 0, 0), BAD);
                check.due("14: too small by " + turn, x.byteAt(pair - turn, 0, 0), BAD);
            }
        }
    }

    private static void p14BadWhenNoSuchMessage() {
        Watched x = mesh("14: no message").longLine();
        check.due("14: no message at all", x.byteAt(8, 0, 0), BAD);
        x.send(0, 1, 1, 2, 3, 4, 5, 6, 7, 8);
        check.due("14: it waits", x.byteAt(8, 0, 0), BAD);
        x.settle();
        x.send(0, 1, 9);
        check.due("14: the first", x.byteAt(8, 0, 0), 1);
        check.due("14: the second waits", x.byteAt(8, 1, 0), BAD);
        for (int no : Edges.NO_MESSAGES) {
            check.due("14: message " + no, x.byteAt(8, no, 0), BAD);
            check.due("14: message " + no, x.byteAt(8, no, 7), BAD);
        }
        x.settle();
        check.due("14: the second", x.byteAt(8, 1, 0), 9);
        check.due("14: no third", x.byteAt(8, 2, 0), BAD);
        x.take(0, 1);
        x.take(0, 1);
        check.due("14: taken", x.byteAt(8, 0, 0), BAD);
    }

    private static void p14BadWhenNoSuchByte() {
        Watched x = mesh("14: no byte").longLine();
        x.send(0, 1, 1, 2, 3, 4, 5, 6, 7, 8);
        x.send(0, 1, 11, 12, 13);
        x.post(0, 1);
        x.send(0, 1, 21, 22, 23, 24, 25, 26, 27, 28);
        x.settle();
        check.due("14: the last of eight", x.byteAt(8, 0, 7), 8);
        check.due("14: none behind, though a message follows", x.byteAt(8, 0, 8), BAD);
        check.due("14: none in front, though a message precedes", x.byteAt(8, 1, -1), BAD);
        check.due("14: the last of three", x.byteAt(8, 1, 2), 13);
        check.due("14: the fourth of three", x.byteAt(8, 1, 3), BAD);
        check.due("14: the eighth of three", x.byteAt(8, 1, 7), BAD);
        check.due("14: the first of none", x.byteAt(8, 2, 0), BAD);
        for (int no : Edges.NO_PLACES) {
            for (int i = 0; i < 4; i++) {
                check.due("14: byte " + no + " of " + i, x.byteAt(8, i, no), BAD);
            }
        }
    }

    // ---- promise 15

    private static void p15BadWhenThereIsNone() {
        Watched x = mesh("15: none").line(0, 1, 2);
        check.due("15: no message at all", x.take(0, 1), BAD);
        x.send(0, 1, 1);
        check.due("15: it waits", x.take(0, 1), BAD);
        check.due("15: it still waits", x.waiting(0, 1), 1);
        x.settle();
        check.due("15: another goal", x.take(0, 2), BAD);
        check.due("15: the other way", x.take(1, 0), BAD);
        check.due("15: to itself", x.take(1, 1), BAD);
        check.due("15: it is there", x.arrived(0, 1), 1);
        check.due("15: taken", x.take(0, 1), 1);
        check.due("15: no second one", x.take(0, 1), BAD);
        check.due("15: none is left", x.messages(), 0);
    }

    private static void p15BadWhenNoStation() {
        Watched x = full("15: no station");
        x.link(0, 1, true);
        x.settle();
        for (int no : Edges.NO_STATIONS) {
            check.due("15: source " + no, x.take(no, 1), BAD);
            check.due("15: goal " + no, x.take(0, no), BAD);
            check.due("15: neither", x.take(no, no), BAD);
        }
        check.due("15: none was taken", x.messages(), 16);
        x.seeAll();
    }

    private static void p15TheFirstTheMiddleTheLast() {
        for (int taken = 0; taken < 16; taken++) {
            Watched x = mesh("15: take " + taken).longLine();
            for (int n = 0; n < 16; n++) {
                // The one to be taken is the only one from 7 to 6.
                x.send(n == taken ? 7 : 2, n == taken ? 6 : 3, n, 1, 2, 3, 4, 5, 6, n + 100);
            }
            check.due("15: settle", x.settle(), 16);
            check.due("15: take", x.take(7, 6), 8);
            check.due("15: take again", x.take(7, 6), BAD);
            for (int i = 0; i < 15; i++) {
                check.due("15: the others", x.byteAt(2 + 8 * 3, i, 7), 100 + (i < taken ? i : i + 1));
            }
            check.due("15: post", x.send(7, 6, 77), 16);
            check.due("15: settle", x.settle(), 1);
            check.due("15: the new one", x.byteAt(7 + 8 * 6, 0, 0), 77);
        }
    }

    private static void p15NoBytesOfOneTakenAreSeen() {
        Watched x = mesh("15: its place is used again");
        x.link(0, 1, true);
        x.send(0, 1, 1, 2, 3, 4, 5, 6, 7, 8);
        x.settle();
        x.take(0, 1);
        x.send(0, 1, 9);
        x.settle();
        check.due("15: length", x.length(0, 1, 0), 1);
        check.due("15: byte", x.byteAt(8, 0, 0), 9);
        for (int k = 1; k < 8; k++) {
            check.due("15: byte " + k, x.byteAt(8, 0, k), BAD);
        }
    }

    // ---- promises 16 and 17

    private static void p16NoneAndSixteen() {
        Watched x = mesh("16");
        check.due("16: none", x.messages(), 0);
        x.write(1);
        check.due("16: a draft is none", x.messages(), 0);
        x.link(0, 1, true);
        for (int n = 1; n <= 16; n++) {
            x.post(n % 2, 1 - n % 2);
            check.due("16: messages", x.messages(), n);
        }
        x.post(0, 1);
        check.due("16: after FULL", x.messages(), 16);
        x.settle();
        check.due("16: when all are there", x.messages(), 16);
        x.forgetAll();
        check.due("16: when all is forgotten", x.messages(), 16);
        for (int n = 15; n >= 0; n--) {
            x.take(n % 2, 1 - n % 2);
            check.due("16: messages", x.messages(), n);
        }
        x.take(0, 1);
        check.due("16: none", x.messages(), 0);
    }

    private static void p17NoneAndSixteen() {
        Watched x = mesh("17");
        check.due("17: no messages", x.ready(), 0);
        x.longLine();
        check.due("17: links alone", x.ready(), 0);
        x.link(3, 4, false);
        for (int n = 1; n <= 16; n++) {
            x.post(n % 2 * 7, 7 - n % 2 * 7);
            check.due("17: none is connected", x.ready(), 0);
        }
        x.link(3, 4, true);
        check.due("17: sixteen", x.ready(), 16);
        check.due("17: asked again", x.ready(), 16);
        x.forgetAll();
        check.due("17: all is forgotten", x.ready(), 16);
        check.due("17: settle", x.settle(), 16);
        check.due("17: all are there", x.ready(), 0);
        x.take(0, 7);
        x.post(7, 0);
        check.due("17: a new one", x.ready(), 1);
    }
}
