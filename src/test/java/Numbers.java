/** Numbers for arguments. */
final class Numbers {
    private Numbers() {
    }

    /** Numbers that are not from 0 to the greatest, also such as would be if bits were cut off. */
    static int[] outside(int greatest) {
        return new int[] {-1, -2, -greatest - 1, greatest + 1, greatest + 2, 256, -256, 1 << 16, -(1 << 16),
            1 << 28, Integer.MIN_VALUE, Integer.MIN_VALUE + 1, Integer.MAX_VALUE - 1, Integer.MAX_VALUE};
    }

    static boolean atMost(int a, int b, int otherA, int otherB) {
        return a <= otherA && b <= otherB;
    }
}
