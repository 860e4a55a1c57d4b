/** The numbers around a range, for the boundary tests. */
final class Edges {
    private Edges() {
    }

    /** The first numbers outside on both sides, and the least and the greatest int with their neighbours. */
    static int[] outside(int least, int greatest) {
        return new int[] {
            least - 1, greatest + 1,
            Integer.MIN_VALUE, Integer.MIN_VALUE + 1, Integer.MAX_VALUE - 1, Integer.MAX_VALUE,
        };
    }

    static int[] wrongAccounts() {
        return outside(0, 1);
    }

    static int[] wrongIntervals() {
        return outside(0, 47);
    }

    static int[] wrongPeriods() {
        return outside(0, 5);
    }

    static int[] wrongBacks() {
        return outside(0, 7);
    }
}
