/**
 * Eight stations that pass messages on for each other over links that come and go.
 *
 * Settling is played in rounds. In each round every station passes on the pieces of messages
 * that it holds, by the ways that it knows, and tells its neighbours how far it is from
 * everybody. A station looks at its own links and at what it was told, never at other links.
 */
public final class MovingMesh {
    public static final int BAD = -1;
    public static final int FULL = -2;

    private static final int STATIONS = 8;
    private static final int PAIRS = 64;
    private static final int MESSAGES = 16;
    private static final int BYTES = 8;
    private static final int ALL_BYTES = 128;
    private static final int HOLDINGS = 128;
    private static final int ORDERS = 16;
    private static final int LAST_PIECE = 20;

    private static final int NONE = -1;
    // No way has more than seven links, so eight stands for "no way known".
    private static final int FAR = 8;

    private static final int LOST = 0;
    private static final int DOUBLED = 1;
    private static final int DELAYED = 2;
    private static final int UNHARMED = 3;

    // A piece of a message is known by message * PIECES + its place. Places 0 .. 7 are those
    // of the bytes, place 8 is that of the receipt, which goes back from goal to source. The
    // first number that no such piece has stands for what a station tells about ways.
    private static final int PIECES = 9;
    private static final int RECEIPT = 8;
    private static final int WAYS = 144;

    private static final int DELAY = 3;
    private static final int SEND_AGAIN = 16;
    // Each station that has a link up sends at least one piece in every round, so all orders
    // for it are used up in rounds 0 .. 20, and the last late piece comes in round 23. Seven
    // rounds without harm make all ways right, whatever was believed before: by round 31.
    // What is sent (again) in round 32 is at its goal after at most seven rounds, and its
    // receipt is at the source after seven more: by round 46 nothing is on its way any more.
    private static final int ROUNDS = 64;

    // linked[a] has bit b when the link between a and b is up.
    private final int[] linked = new int[STATIONS];

    private final int[] draftBytes = new int[BYTES];
    private int draftLength;

    // The messages that are waiting or there, in the order in which they were posted.
    private int messageCount;
    private final int[] sourceOf = new int[MESSAGES];
    private final int[] goalOf = new int[MESSAGES];
    private final int[] lengthOf = new int[MESSAGES];
    private final int[] byteOf = new int[ALL_BYTES];
    private final int[] piecesAtGoal = new int[MESSAGES];
    private final boolean[] isThere = new boolean[MESSAGES];
    private final boolean[] hasReceipt = new boolean[MESSAGES];

    // What each station believes: how far it is to each other one, and by which neighbour.
    private final int[] far = new int[PAIRS];
    private final int[] way = new int[PAIRS];
    private final int[] newFar = new int[PAIRS];
    private final int[] newWay = new int[PAIRS];

    // The pieces, a bit each, that a station (times MESSAGES, plus message) has to pass on
    // in this round, and those that came to it for the next one.
    private final int[] held = new int[HOLDINGS];
    private final int[] came = new int[HOLDINGS];

    private final int[] orderStation = new int[ORDERS];
    private final int[] orderLeft = new int[ORDERS];
    private final int[] orderKind = new int[ORDERS];

    // Pieces that come late. An order makes at most one, so there are never more than orders.
    private final int[] lateRounds = new int[ORDERS];
    private final int[] lateFrom = new int[ORDERS];
    private final int[] lateTo = new int[ORDERS];
    private final int[] latePiece = new int[ORDERS];
    private final int[] lateTold = new int[ORDERS];

    public MovingMesh() {
        for (int a = 0; a < STATIONS; a++) {
            forgetWays(a);
        }
        for (int i = 0; i < ORDERS; i++) {
            orderStation[i] = NONE;
        }
    }

    public int write(int b) {
        if (b < 0 || b > 255) {
            return BAD;
        }
        if (draftLength >= BYTES) {
            return FULL;
        }
        draftBytes[draftLength] = b;
        draftLength++;
        return draftLength;
    }

    public int draft() {
        return draftLength;
    }

    public int post(int source, int goal) {
        if (!areTwoStations(source, goal)) {
            return BAD;
        }
        if (messageCount >= MESSAGES) {
            return FULL;
        }
        int m = messageCount;
        sourceOf[m] = source;
        goalOf[m] = goal;
        lengthOf[m] = draftLength;
        for (int k = 0; k < draftLength; k++) {
            byteOf[m * BYTES + k] = draftBytes[k];
        }
        piecesAtGoal[m] = 0;
        isThere[m] = false;
        hasReceipt[m] = false;
        draftLength = 0;
        messageCount++;
        return messageCount;
    }

    public boolean link(int a, int b, boolean up) {
        if (!areTwoStations(a, b)) {
            return false;
        }
        if (up) {
            linked[a] |= 1 << b;
            linked[b] |= 1 << a;
        } else {
            linked[a] &= ~(1 << b);
            linked[b] &= ~(1 << a);
        }
        return true;
    }

    public int links(int a) {
        return isStation(a) ? linked[a] : BAD;
    }

    public int distance(int a, int b) {
        if (!isStation(a) || !isStation(b)) {
            return BAD;
        }
        int reached = 1 << a;
        for (int steps = 0; steps < STATIONS; steps++) {
            if (hasBit(reached, b)) {
                return steps;
            }
            reached = oneLinkFurther(reached);
        }
        return BAD;
    }

    public boolean disturb(int a, int k, int kind) {
        if (!isStation(a) || k < 0 || k > LAST_PIECE || kind < LOST || kind > DELAYED) {
            return false;
        }
        for (int i = 0; i < ORDERS; i++) {
            if (orderStation[i] == NONE) {
                orderStation[i] = a;
                orderLeft[i] = k;
                orderKind[i] = kind;
                break;
            }
        }
        return true;
    }

    public boolean forget(int a) {
        if (!isStation(a)) {
            return false;
        }
        forgetWays(a);
        forgetPieces(a);
        return true;
    }

    public int settle() {
        int before = countThere();
        for (int round = 0; round < ROUNDS; round++) {
            beginRound();
            bringLatePieces();
            if (round % SEND_AGAIN == 0) {
                takeUpWaiting();
            }
            passPiecesOn();
            tellWays();
            letArrive();
            believeWhatWasTold();
        }
        return countThere() - before;
    }

    public int waiting(int source, int goal) {
        return isStation(source) && isStation(goal) ? count(source, goal, false) : BAD;
    }

    public int arrived(int source, int goal) {
        return isStation(source) && isStation(goal) ? count(source, goal, true) : BAD;
    }

    public int length(int source, int goal, int i) {
        int m = find(source, goal, i);
        return m == NONE ? BAD : lengthOf[m];
    }

    public int byteAt(int both, int i, int k) {
        if (both < 0 || both >= PAIRS) {
            return BAD;
        }
        int m = find(both % STATIONS, both / STATIONS, i);
        if (m == NONE || k < 0 || k >= lengthOf[m]) {
            return BAD;
        }
        return byteOf[m * BYTES + k];
    }

    public int take(int source, int goal) {
        int m = find(source, goal, 0);
        if (m == NONE) {
            return BAD;
        }
        int bytes = lengthOf[m];
        messageCount--;
        for (int i = m; i < messageCount; i++) {
            moveUp(i);
        }
        return bytes;
    }

    public int messages() {
        return messageCount;
    }

    public int ready() {
        int count = 0;
        for (int m = 0; m < messageCount; m++) {
            if (!isThere[m] && distance(sourceOf[m], goalOf[m]) != BAD) {
                count++;
            }
        }
        return count;
    }

    // ---- stations and links

    private static boolean isStation(int a) {
        return a >= 0 && a < STATIONS;
    }

    private static boolean areTwoStations(int a, int b) {
        return isStation(a) && isStation(b) && a != b;
    }

    private static boolean hasBit(int bits, int place) {
        return ((bits >> place) & 1) == 1;
    }

    private int oneLinkFurther(int reached) {
        int further = reached;
        for (int a = 0; a < STATIONS; a++) {
            if (hasBit(reached, a)) {
                further |= linked[a];
            }
        }
        return further;
    }

    // ---- the list of messages

    private boolean isFor(int m, int source, int goal) {
        return sourceOf[m] == source && goalOf[m] == goal;
    }

    private int count(int source, int goal, boolean there) {
        int count = 0;
        for (int m = 0; m < messageCount; m++) {
            if (isThere[m] == there && isFor(m, source, goal)) {
                count++;
            }
        }
        return count;
    }

    private int countThere() {
        int count = 0;
        for (int m = 0; m < messageCount; m++) {
            if (isThere[m]) {
                count++;
            }
        }
        return count;
    }

    /** The place in the list of message i of those that are there, or NONE. */
    private int find(int source, int goal, int i) {
        int before = 0;
        for (int m = 0; m < messageCount; m++) {
            if (isThere[m] && isFor(m, source, goal)) {
                if (before == i) {
                    return m;
                }
                before++;
            }
        }
        return NONE;
    }

    /** Puts the message after place m there. Only done while no piece of any is on its way. */
    private void moveUp(int m) {
        sourceOf[m] = sourceOf[m + 1];
        goalOf[m] = goalOf[m + 1];
        lengthOf[m] = lengthOf[m + 1];
        piecesAtGoal[m] = piecesAtGoal[m + 1];
        isThere[m] = isThere[m + 1];
        hasReceipt[m] = hasReceipt[m + 1];
        for (int k = 0; k < BYTES; k++) {
            byteOf[m * BYTES + k] = byteOf[(m + 1) * BYTES + k];
        }
    }

    // ---- what a station knows

    private void forgetWays(int a) {
        for (int b = 0; b < STATIONS; b++) {
            far[a * STATIONS + b] = a == b ? 0 : FAR;
            way[a * STATIONS + b] = NONE;
        }
    }

    private void forgetPieces(int a) {
        for (int m = 0; m < messageCount; m++) {
            came[a * MESSAGES + m] = 0;
            if (goalOf[m] == a && !isThere[m]) {
                piecesAtGoal[m] = 0;
            }
        }
    }

    // ---- a round of settling

    private void beginRound() {
        for (int h = 0; h < HOLDINGS; h++) {
            held[h] = came[h];
            came[h] = 0;
        }
        // Believing only what is told in the same round lets wrong beliefs die out.
        for (int p = 0; p < PAIRS; p++) {
            newFar[p] = p / STATIONS == p % STATIONS ? 0 : FAR;
            newWay[p] = NONE;
        }
    }

    private void bringLatePieces() {
        for (int i = 0; i < ORDERS; i++) {
            if (lateRounds[i] > 0) {
                lateRounds[i]--;
                if (lateRounds[i] == 0) {
                    handOver(lateFrom[i], lateTo[i], latePiece[i], lateTold[i]);
                }
            }
        }
    }

    private void takeUpWaiting() {
        for (int m = 0; m < messageCount; m++) {
            if (!hasReceipt[m]) {
                held[sourceOf[m] * MESSAGES + m] |= allPieces(m);
            }
        }
    }

    private void passPiecesOn() {
        for (int h = 0; h < HOLDINGS; h++) {
            for (int place = 0; place < PIECES; place++) {
                if (hasBit(held[h], place)) {
                    passOn(h / MESSAGES, h % MESSAGES, place);
                }
            }
        }
    }

    /**
     * A piece for which no way is known is dropped, not kept: kept pieces could arrive later,
     * over other links, when source and goal are not connected. The source sends it again.
     */
    private void passOn(int a, int m, int place) {
        int end = place == RECEIPT ? sourceOf[m] : goalOf[m];
        int next = way[a * STATIONS + end];
        if (next != NONE && hasBit(linked[a], next)) {
            send(a, next, m * PIECES + place, 0);
        }
    }

    private void tellWays() {
        for (int a = 0; a < STATIONS; a++) {
            int told = 0;
            for (int b = 0; b < STATIONS; b++) {
                told |= far[a * STATIONS + b] << (4 * b);
            }
            for (int b = 0; b < STATIONS; b++) {
                if (hasBit(linked[a], b)) {
                    send(a, b, WAYS, told);
                }
            }
        }
    }

    private void letArrive() {
        for (int m = 0; m < messageCount; m++) {
            if (!isThere[m] && piecesAtGoal[m] == allPieces(m) && !anEarlierOneWaits(m)) {
                isThere[m] = true;
                came[goalOf[m] * MESSAGES + m] |= 1 << RECEIPT;
            }
        }
    }

    private boolean anEarlierOneWaits(int m) {
        for (int i = 0; i < m; i++) {
            if (!isThere[i] && isFor(i, sourceOf[m], goalOf[m])) {
                return true;
            }
        }
        return false;
    }

    private void believeWhatWasTold() {
        for (int p = 0; p < PAIRS; p++) {
            far[p] = newFar[p];
            way[p] = newWay[p];
        }
    }

    /** A piece for each byte; a message without bytes has one piece all the same. */
    private int allPieces(int m) {
        return lengthOf[m] == 0 ? 1 : (1 << lengthOf[m]) - 1;
    }

    // ---- a piece from one station to its neighbour

    private void send(int from, int to, int piece, int told) {
        int fate = fateOfNextPiece(from);
        if (fate == DOUBLED || fate == DELAYED) {
            keepLate(from, to, piece, told);
        }
        if (fate == DOUBLED || fate == UNHARMED) {
            handOver(from, to, piece, told);
        }
    }

    /** Where several orders name the same piece, the one that stands last decides. */
    private int fateOfNextPiece(int a) {
        int fate = UNHARMED;
        for (int i = 0; i < ORDERS; i++) {
            if (orderStation[i] == a) {
                if (orderLeft[i] == 0) {
                    fate = orderKind[i];
                    orderStation[i] = NONE;
                } else {
                    orderLeft[i]--;
                }
            }
        }
        return fate;
    }

    private void keepLate(int from, int to, int piece, int told) {
        for (int i = 0; i < ORDERS; i++) {
            if (lateRounds[i] == 0) {
                lateRounds[i] = DELAY;
                lateFrom[i] = from;
                lateTo[i] = to;
                latePiece[i] = piece;
                lateTold[i] = told;
                break;
            }
        }
    }

    private void handOver(int from, int to, int piece, int told) {
        if (piece == WAYS) {
            hearWays(from, to, told);
        } else {
            takeIn(to, piece / PIECES, piece % PIECES);
        }
    }

    private void hearWays(int from, int to, int told) {
        for (int b = 0; b < STATIONS; b++) {
            int steps = ((told >>> (4 * b)) & 15) + 1;
            if (steps < newFar[to * STATIONS + b]) {
                newFar[to * STATIONS + b] = steps;
                newWay[to * STATIONS + b] = from;
            }
        }
    }

    private void takeIn(int a, int m, int place) {
        if (place == RECEIPT && a == sourceOf[m]) {
            hasReceipt[m] = true;
        } else if (place != RECEIPT && a == goalOf[m]) {
            piecesAtGoal[m] |= 1 << place;
            // It comes again, so the receipt may have been lost.
            if (isThere[m]) {
                came[a * MESSAGES + m] |= 1 << RECEIPT;
            }
        } else {
            came[a * MESSAGES + m] |= 1 << place;
        }
    }
}
