/**
 * Numbers that are out of a range: next to it on both sides, far off, and such as fall back into it
 * when a shift or a mask drops their upper bits.
 */
final class Wrong {
    static final int[] KINDS = {-1, 3, 4, 8, 256, -256, 65536, 1 << 31, Integer.MAX_VALUE};
    static final int[] RELATIONS = {
        -1, 6, 7, 8, 10, 32, 34, 64, -2, -62, 256, 65538, (1 << 28) + 2, (1 << 30) + 2, (1 << 31) + 2, 1 << 31,
        Integer.MAX_VALUE,
    };
    static final int[] VARIABLES = {
        -1, 4, 5, 8, 16, 32, 64, -4, -32, 256, 65536, 1 << 28, 1 << 29, 1 << 30, 1 << 31, Integer.MAX_VALUE,
    };
    static final int[] CONSTANTS = {
        -1, 16, 17, 23, 24, 31, 32, 33, 34, 47, 64, 65, -16, -17, -31, -32, 256, 65537, (1 << 30) + 1, (1 << 31) + 1, 1 << 31,
        Integer.MAX_VALUE,
    };
    /** None of these is the number of something that a relation or an answer has. */
    static final int[] PLACES = {-1, -2, -32, 1 << 31, (1 << 31) + 1, 256, 65536, 1 << 30, Integer.MAX_VALUE};

    private Wrong() {
    }
}
