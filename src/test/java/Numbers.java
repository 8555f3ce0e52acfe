/** Numbers to try at the bounds of what the document allows. */
final class Numbers {
    static final int LOW = Integer.MIN_VALUE;
    static final int HIGH = Integer.MAX_VALUE;

    private Numbers() {
    }

    /** Just outside, and such as would be inside if only some of their bits were looked at. */
    static int[] outside(int least, int greatest) {
        return new int[] {least - 1, greatest + 1, least - 256, least + 256, least - 65536,
            least + 65536, least | LOW, greatest | LOW, LOW, HIGH};
    }
}
