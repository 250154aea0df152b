/** Numbers outside a range 0 .. end - 1. */
final class Outside {
    private Outside() {
    }

    /**
     * The nearest ones on both sides, the least and the greatest int, and some that
     * a shift, a mask, a smaller type or a product that wraps around takes for 0 or
     * for another number of the range.
     */
    static int[] of(int end) {
        return new int[] {
            -1, end, Integer.MIN_VALUE, Integer.MAX_VALUE,
            -end, end + 1, -32, 32, 256, 1 << 16, 1 << 30, Integer.MIN_VALUE + 1
        };
    }
}
