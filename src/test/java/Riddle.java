import java.util.Arrays;

/** Three doors with few heights and some constraints, made from a number, with the first peace found by trying all. */
final class Riddle {
    /** All heights within the bounds are less than this. */
    static final int HEIGHTS = 10;

    private final int[] bounds = new int[6];
    private final int[][] constraints;
    private long state;

    Riddle(int number) {
        state = number * 7919L + 1;
        below(1);
        for (int door = 0; door < 3; door++) {
            bounds[2 * door] = below(5);
            bounds[2 * door + 1] = bounds[2 * door] + below(6);
        }
        constraints = new int[1 + below(4)][];
        for (int at = 0; at < constraints.length; at++) {
            int first = below(3);
            constraints[at] = new int[] {"<=##".charAt(below(4)), first, (first + 1 + below(2)) % 3, 1 + below(4)};
        }
    }

    private int below(int bound) {
        state = state * 6364136223846793005L + 1442695040888963407L;
        return (int) ((state >>> 33) % bound);
    }

    /** Adds the constraints, but for those that are there. */
    LintelBrothers object() {
        LintelBrothers x = Scenes.narrowed(bounds);
        for (int[] one : constraints) {
            Check.answer(() -> x.addConstraint((char) one[0], one[1], one[2], one[3]));
        }
        return x;
    }

    boolean isPeace(int[] heights) {
        for (int door = 0; door < 3; door++) {
            if (heights[door] < bounds[2 * door] || heights[door] > bounds[2 * door + 1]) {
                return false;
            }
        }
        for (int[] one : constraints) {
            if (!Model.isMet((char) one[0], heights[one[1]], heights[one[2]], one[3])) {
                return false;
            }
        }
        return true;
    }

    /** Returns null if there is none. */
    int[] firstPeace() {
        for (int number = 0; number < HEIGHTS * HEIGHTS * HEIGHTS; number++) {
            int[] heights = {number / HEIGHTS / HEIGHTS, number / HEIGHTS % HEIGHTS, number % HEIGHTS};
            if (isPeace(heights)) {
                return heights;
            }
        }
        return null;
    }

    @Override
    public String toString() {
        return Arrays.toString(bounds) + " " + Arrays.deepToString(constraints);
    }
}
