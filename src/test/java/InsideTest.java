import java.lang.reflect.Field;
import java.lang.reflect.Method;

/**
 * Promises 8 and 9 change what no answer shows, and settling rests on it that nothing is left
 * on its way; so this test looks inside. It knows the names of private members.
 */
public final class InsideTest {
    private static final int LOST = 0;
    private static final int DOUBLED = 1;
    private static final int DELAYED = 2;
    private static final int UNHARMED = 3;
    private static final Check check = new Check();

    public static void main(String[] args) throws ReflectiveOperationException {
        fates();
        sixteenOrders();
        seventeenthOrder();
        pieces();
        sixteenLatePieces();
        forgottenWays();
        refusedForgetting();
        forgottenPieces();
        nothingIsLeft();
        lostReceipts();
        orderOfArrival();
        check.end();
    }

    private static int[] inside(MovingMesh x, String name) throws ReflectiveOperationException {
        Field f = MovingMesh.class.getDeclaredField(name);
        f.setAccessible(true);
        return (int[]) f.get(x);
    }

    private static boolean[] marks(MovingMesh x, String name) throws ReflectiveOperationException {
        Field f = MovingMesh.class.getDeclaredField(name);
        f.setAccessible(true);
        return (boolean[]) f.get(x);
    }

    private static int call(MovingMesh x, String name, int... with) throws ReflectiveOperationException {
        Class<?>[] types = new Class<?>[with.length];
        Object[] values = new Object[with.length];
        for (int i = 0; i < with.length; i++) {
            types[i] = int.class;
            values[i] = with[i];
        }
        Method m = MovingMesh.class.getDeclaredMethod(name, types);
        m.setAccessible(true);
        Object answer = m.invoke(x, values);
        return answer == null ? 0 : (int) answer;
    }

    private static int sum(int[] numbers) {
        int sum = 0;
        for (int n : numbers) {
            sum += n;
        }
        return sum;
    }

    private static int ordersLeft(MovingMesh x) throws ReflectiveOperationException {
        int count = 0;
        for (int a : inside(x, "orderStation")) {
            count += a >= 0 ? 1 : 0;
        }
        return count;
    }

    private static void fates() throws ReflectiveOperationException {
        MovingMesh x = new MovingMesh();
        x.disturb(2, 3, DELAYED);
        x.disturb(2, 0, LOST);
        x.disturb(2, 20, DOUBLED);
        check.due("another station", call(x, "fateOfNextPiece", 1), UNHARMED);
        for (int k = 0; k <= 21; k++) {
            int due = k == 0 ? LOST : k == 3 ? DELAYED : k == 20 ? DOUBLED : UNHARMED;
            check.due("piece " + k, call(x, "fateOfNextPiece", 2), due);
        }
        x.disturb(2, 1, DOUBLED);
        check.due("from now on, piece 0", call(x, "fateOfNextPiece", 2), UNHARMED);
        check.due("from now on, piece 1", call(x, "fateOfNextPiece", 2), DOUBLED);
        check.due("no order is left", ordersLeft(x), 0);
    }

    private static void sixteenOrders() throws ReflectiveOperationException {
        MovingMesh x = new MovingMesh();
        x.disturb(8, 0, LOST);
        x.disturb(0, 21, LOST);
        x.disturb(0, 0, 3);
        check.due("wrong orders", ordersLeft(x), 0);
        for (int k = 0; k <= 20; k++) {
            x.disturb(5, k, LOST);
        }
        check.due("orders", ordersLeft(x), 16);
        for (int k = 0; k <= 20; k++) {
            check.due("piece " + k, call(x, "fateOfNextPiece", 5), k < 16 ? LOST : UNHARMED);
        }
        x.disturb(5, 0, DELAYED);
        check.due("there is room again", call(x, "fateOfNextPiece", 5), DELAYED);
    }

    private static void seventeenthOrder() throws ReflectiveOperationException {
        for (int orders = 0; orders <= 18; orders++) {
            MovingMesh x = new MovingMesh();
            for (int n = 0; n < orders; n++) {
                x.disturb(n % 8, 20 - n, n % 3);
            }
            check.due("remembered of " + orders, ordersLeft(x), Math.min(orders, 16));
            for (int no : Edges.NO_STATIONS) {
                x.disturb(no, 0, 0);
            }
            for (int no : Edges.NO_PIECES) {
                x.disturb(0, no, 0);
            }
            for (int no : Edges.NO_KINDS) {
                x.disturb(0, 0, no);
            }
            check.due("none that was refused", ordersLeft(x), Math.min(orders, 16));
        }
    }

    private static void pieces() throws ReflectiveOperationException {
        for (int kind = LOST; kind <= DELAYED; kind++) {
            MovingMesh x = new MovingMesh();
            x.write(1);
            x.post(0, 1);
            x.disturb(0, 0, kind);
            call(x, "send", 0, 1, 0, 0);
            check.due("came at once, kind " + kind, inside(x, "piecesAtGoal")[0], kind == DOUBLED ? 1 : 0);
            inside(x, "piecesAtGoal")[0] = 0;
            for (int round = 0; round < 8; round++) {
                call(x, "bringLatePieces");
            }
            check.due("came late, kind " + kind, inside(x, "piecesAtGoal")[0], kind == LOST ? 0 : 1);
            inside(x, "piecesAtGoal")[0] = 0;
            call(x, "bringLatePieces");
            check.due("came no more, kind " + kind, inside(x, "piecesAtGoal")[0], 0);
            call(x, "send", 0, 1, 0, 0);
            check.due("the next one, kind " + kind, inside(x, "piecesAtGoal")[0], 1);
        }
    }

    private static void sixteenLatePieces() throws ReflectiveOperationException {
        MovingMesh x = new MovingMesh();
        for (int m = 0; m < 16; m++) {
            x.write(m);
            x.post(0, 1);
            x.disturb(0, m, DELAYED);
        }
        for (int m = 0; m < 16; m++) {
            call(x, "send", 0, 1, m * 9, 0);
        }
        check.due("none came at once", sum(inside(x, "piecesAtGoal")), 0);
        for (int round = 0; round < 8; round++) {
            call(x, "bringLatePieces");
        }
        check.due("all came late", sum(inside(x, "piecesAtGoal")), 16);
    }

    private static void refusedForgetting() throws ReflectiveOperationException {
        MovingMesh x = new MovingMesh();
        x.link(0, 1, true);
        x.settle();
        for (int no : Edges.NO_STATIONS) {
            x.forget(no);
        }
        check.due("0 knows", inside(x, "way")[0 * 8 + 1], 1);
        check.due("1 knows", inside(x, "way")[1 * 8 + 0], 0);
    }

    private static void forgottenWays() throws ReflectiveOperationException {
        MovingMesh x = new MovingMesh();
        x.link(0, 1, true);
        x.link(1, 2, true);
        x.settle();
        check.due("far", inside(x, "far")[0 * 8 + 2], 2);
        check.due("way", inside(x, "way")[0 * 8 + 2], 1);
        x.forget(0);
        for (int b = 0; b < 8; b++) {
            check.due("far " + b, inside(x, "far")[b], b == 0 ? 0 : 8);
            check.due("way " + b, inside(x, "way")[b], -1);
        }
        check.due("others know", inside(x, "way")[1 * 8 + 0], 0);
    }

    private static void forgottenPieces() throws ReflectiveOperationException {
        MovingMesh x = new MovingMesh();
        x.write(1);
        x.write(2);
        x.post(0, 2);
        call(x, "takeIn", 1, 0, 0);
        call(x, "takeIn", 2, 0, 1);
        check.due("held on its way", inside(x, "came")[1 * 16], 1);
        check.due("held at the goal", inside(x, "piecesAtGoal")[0], 2);
        x.forget(0);
        check.due("kept on its way", inside(x, "came")[1 * 16], 1);
        check.due("kept at the goal", inside(x, "piecesAtGoal")[0], 2);
        x.forget(1);
        x.forget(2);
        check.due("forgotten on its way", inside(x, "came")[1 * 16], 0);
        check.due("forgotten at the goal", inside(x, "piecesAtGoal")[0], 0);
    }

    private static void nothingIsLeft() throws ReflectiveOperationException {
        for (int kind = LOST; kind <= DELAYED; kind++) {
            for (int first = 0; first <= 5; first++) {
                for (int a = 0; a < 8; a++) {
                    MovingMesh x = new MovingMesh();
                    for (int b = 0; b < 7; b++) {
                        x.link(b, b + 1, true);
                    }
                    for (int n = 0; n < 8; n++) {
                        x.write(n);
                        x.write(n);
                        x.post(n % 2 * 7, 7 - n % 2 * 7);
                    }
                    for (int i = 0; i < 16; i++) {
                        x.disturb(a, first + i, kind);
                    }
                    check.due("settle", x.settle(), 8);
                    check.due("orders", ordersLeft(x), 0);
                    check.due("pieces on their way", sum(inside(x, "came")), 0);
                    check.due("late pieces", sum(inside(x, "lateRounds")), 0);
                }
            }
        }
    }

    /** The ways are known, so the receipts are among the pieces that get lost. */
    private static void lostReceipts() throws ReflectiveOperationException {
        for (int a = 0; a < 8; a++) {
            for (int first = 0; first <= 5; first++) {
                MovingMesh x = new MovingMesh();
                for (int b = 0; b < 7; b++) {
                    x.link(b, b + 1, true);
                }
                x.settle();
                x.write(1);
                x.post(0, 7);
                for (int i = 0; i < 16; i++) {
                    x.disturb(a, first + i, LOST);
                }
                check.due("settle", x.settle(), 1);
                check.due("the source knows, " + a + " " + first, marks(x, "hasReceipt")[0], true);
            }
        }
    }

    /** All pieces of the later one come first; within one settling no answer can tell. */
    private static void orderOfArrival() throws ReflectiveOperationException {
        MovingMesh x = new MovingMesh();
        x.post(0, 1);
        x.post(0, 1);
        x.post(2, 1);
        call(x, "takeIn", 1, 1, 0);
        call(x, "takeIn", 1, 2, 0);
        call(x, "letArrive");
        check.due("the later one still waits", x.arrived(0, 1), 0);
        check.due("that of another source does not", x.arrived(2, 1), 1);
        call(x, "takeIn", 1, 0, 0);
        call(x, "letArrive");
        check.due("both arrive", x.arrived(0, 1), 2);
    }
}
