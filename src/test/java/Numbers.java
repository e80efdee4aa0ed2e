import java.util.stream.IntStream;

/** Numbers at an edge of what a call takes, on both sides of it, and far from it. */
final class Numbers {
    static final int LEAST = Integer.MIN_VALUE;
    static final int GREATEST = Integer.MAX_VALUE;

    private Numbers() {
    }

    /** Some are points again if only their low bits are looked at, as in a shift. */
    static int[] outsideThePoints(int points) {
        int[] anyway = {LEAST, LEAST + 1, -256, -33, -32, -31, -8, -7, -2, -1,
            8, 9, 31, 32, 33, 63, 64, 256, 65536, GREATEST - 1, GREATEST};
        return IntStream.concat(IntStream.of(anyway), IntStream.range(points, 8)).toArray();
    }

    /** Some are sets again if only their low bits are looked at. */
    static int[] noSets(int points) {
        int all = (1 << points) - 1;
        int[] far = {LEAST, LEAST + 1, LEAST + all, -65536 + all, 65536, 65536 + 1, 65536 + all,
            1 << 30, (1 << 30) + all, GREATEST - all, GREATEST - 1, GREATEST};
        IntStream below = IntStream.range(-520, 0);
        IntStream above = IntStream.range(all + 1, 1040);
        return IntStream.concat(IntStream.of(far), IntStream.concat(below, above)).toArray();
    }

    /** The empty set, every set with a point, and the numbers that are no set. */
    static int[] setsAndNoSets(int points) {
        return IntStream.concat(IntStream.range(0, 1 << points), IntStream.of(noSets(points))).toArray();
    }
}
