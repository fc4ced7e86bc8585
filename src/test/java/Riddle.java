import java.util.Arrays;

/** Three doors with few heights and some constraints, made from a number, with the first peace found by trying all. */
final class Riddle {
    private final int[] bounds = new int[6];
    private final int[][] constraints;
    private int state;

    Riddle(int number) {
        state = number * 7919 + 1;
        for (int door = 0; door < 3; door++) {
            bounds[2 * door] = below(5);
            bounds[2 * door + 1] = bounds[2 * door] + below(5);
        }
        constraints = new int[2 + below(4)][];
        for (int at = 0; at < constraints.length; at++) {
            int first = below(3);
            constraints[at] = new int[] {"<=##".charAt(below(4)), first, (first + 1 + below(2)) % 3, 1 + below(4)};
        }
    }

    private int below(int bound) {
        state = state * 1103515245 + 12345;
        return (state >>> 16) % bound;
    }

    /** Adds the constraints, but for those that are there. */
    LintelBrothers object() {
        LintelBrothers x = Scenes.narrowed(bounds);
        for (int[] one : constraints) {
            Check.answer(() -> x.addConstraint((char) one[0], one[1], one[2], one[3]));
        }
        return x;
    }

    boolean isPeace(int[] heights) {
        for (int door = 0; door < 3; door++) {
            if (heights[door] < bounds[2 * door] || heights[door] > bounds[2 * door + 1]) {
                return false;
            }
        }
        for (int[] one : constraints) {
            if (!Model.isMet((char) one[0], heights[one[1]], heights[one[2]], one[3])) {
                return false;
            }
        }
        return true;
    }

    /** Returns null if there is none. */
    int[] firstPeace() {
        for (int number = 0; number < 9 * 9 * 9; number++) {
            int[] heights = {number / 81, number / 9 % 9, number % 9};
            if (isPeace(heights)) {
                return heights;
            }
        }
        return null;
    }

    @Override
    public String toString() {
        return Arrays.toString(bounds) + " " + Arrays.deepToString(constraints);
    }
}
