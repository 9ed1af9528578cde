/** Arguments at, just inside and just outside each bound of the document, and far off. */
final class Edges {
    static final int MIN = Integer.MIN_VALUE;
    static final int MAX = Integer.MAX_VALUE;

    // 32, 40 and -32 are stations for who shifts by them without looking; 256 for who casts.
    static final int[] NO_STATIONS = {
        -1, 8, -2, 9, -8, 15, 16, 31, 32, -32, 40, 63, 64, 256, -256, 1 << 16, MIN + 1, MAX - 1, MIN, MAX};
    static final int[] NO_BYTES = {
        -1, 256, -2, 257, -128, -255, -256, 511, 512, 1 << 16, MIN + 1, MAX - 1, MIN, MAX};
    static final int[] BYTES = {0, 255, 1, 254, 127, 128};
    static final int[] PIECES = {0, 20, 1, 19};
    static final int[] NO_PIECES = {-1, 21, -2, 22, 32, 256, MIN + 1, MAX - 1, MIN, MAX};
    static final int[] NO_KINDS = {-1, 3, -2, 4, 32, 256, MIN + 1, MAX - 1, MIN, MAX};
    static final int[] NO_PAIRS = {
        -1, 64, -2, 65, -8, 72, -56, -64, 128, 256, 1 << 16, MIN + 1, MAX - 1, MIN, MAX, MIN + 8, MAX - 7};
    // With 2^28 and 2^29 the place 8 * i of a message's bytes wraps around.
    static final int[] NO_MESSAGES = {
        -1, 16, -2, 17, -16, 32, 256, 1 << 28, 1 << 29, -(1 << 29), MIN + 1, MAX - 1, MIN, MAX};
    static final int[] NO_PLACES = {-1, 8, -2, 9, -8, 16, 128, 256, MIN + 1, MAX - 1, MIN, MAX};

    private Edges() {
    }
}
