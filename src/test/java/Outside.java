/** Numbers just outside a range that begins with 0, and far from it. */
final class Outside {
    private Outside() {
    }

    /**
     * Beside the nearest and the farthest ones, those that would fall back into the range if only
     * some of their lowest bits were looked at, as a shift or a narrower type does.
     */
    static int[] upTo(int greatest) {
        int[] numbers = {
            -1, greatest + 1, greatest + 2,
            32, 32 + greatest, 64, 256, 256 + greatest, 65536, 65536 + greatest, 1 << 30,
            -32, -32 + greatest, -64, -256, -65536,
            Integer.MAX_VALUE, Integer.MIN_VALUE, Integer.MIN_VALUE + greatest,
        };
        return numbers;
    }
}
