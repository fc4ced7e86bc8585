/** Promises 14 to 23: constraints. */
public final class ConstraintTests {
    private static final Check CHECK = new Check("ConstraintTests");

    public static void main(String[] args) {
        addConstraint();
        wrongConstraints();
        rejectedConstraints();
        removeConstraint();
        readConstraints();
        lower();
        exact();
        apart();
        againstAllPairs();
        CHECK.end();
    }

    private static LintelBrothers withDoors(int doors) {
        LintelBrothers x = new LintelBrothers();
        for (int door = 0; door < doors; door++) {
            x.addDoor(0, 40);
        }
        return x;
    }

    private static void addConstraint() {
        LintelBrothers x = withDoors(3);
        CHECK.same("14 the first id", 0, () -> x.addConstraint('<', 0, 1, 0));
        CHECK.same("14 the next id", 1, () -> x.addConstraint('=', 0, 1, 20));
        CHECK.same("14 the next id", 2, () -> x.addConstraint('#', 2, 1, 1));
        CHECK.same("14 the next id", 3, () -> x.addConstraint('#', 2, 1, 20));
        CHECK.same("14 bounds stay", 0, () -> x.lowOf(1));
        CHECK.same("14 bounds stay", 40, () -> x.highOf(0));
        x.undo();
        CHECK.same("14 an id that was undone", 3, () -> x.addConstraint('#', 2, 1, 19));
    }

    private static void wrongConstraints() {
        LintelBrothers x = withDoors(2);
        for (int door : new int[] {-1, 2, 6, Integer.MAX_VALUE, Integer.MIN_VALUE}) {
            CHECK.refused("14 no first door", IndexOutOfBoundsException.class, x,
                    () -> x.addConstraint('<', door, 0, 1));
            CHECK.refused("14 no second door", IndexOutOfBoundsException.class, x,
                    () -> x.addConstraint('<', 0, door, 1));
            CHECK.refused("14 the doors come first", IndexOutOfBoundsException.class, x,
                    () -> x.addConstraint('>', door, door, 21));
        }
        for (char kind : new char[] {'>', ' ', 0, '-', '!', '"', '$', ';', 65535}) {
            CHECK.refused("14 no kind", IllegalArgumentException.class, x, () -> x.addConstraint(kind, 0, 1, 1));
        }
        for (char kind : new char[] {'<', '=', '#'}) {
            CHECK.refused("14 the same door", IllegalArgumentException.class, x,
                    () -> x.addConstraint(kind, 1, 1, 1));
            for (int gap : new int[] {-1, 21, Integer.MAX_VALUE, Integer.MIN_VALUE}) {
                CHECK.refused("14 a wrong gap", IllegalArgumentException.class, x,
                        () -> x.addConstraint(kind, 0, 1, gap));
            }
        }
        CHECK.refused("14 no gap apart", IllegalArgumentException.class, x, () -> x.addConstraint('#', 0, 1, 0));
    }

    private static void rejectedConstraints() {
        LintelBrothers x = withDoors(3);
        for (int gap = 1; gap <= 9; gap++) {
            x.addConstraint('<', 0, 1, gap);
        }
        CHECK.rejected("14 the same", LintelBrothers.SAME_CONSTRAINT, 4, x, () -> x.addConstraint('<', 0, 1, 5));
        CHECK.same("14 other doors are not the same", 9, () -> x.addConstraint('<', 1, 0, 5));
        CHECK.rejected("14 one too many", LintelBrothers.CONSTRAINT_LIMIT, 0, x,
                () -> x.addConstraint('=', 0, 1, 5));
        CHECK.rejected("14 the limit comes first", LintelBrothers.CONSTRAINT_LIMIT, 0, x,
                () -> x.addConstraint('<', 0, 1, 5));
        CHECK.refused("14 the arguments come first", IllegalArgumentException.class, x,
                () -> x.addConstraint('<', 0, 1, 21));
        x.removeConstraint(0);
        CHECK.same("14 other kinds are not the same", 10, () -> x.addConstraint('=', 0, 1, 5));
        CHECK.rejected("14 the lowest id", LintelBrothers.CONSTRAINT_LIMIT, 1, x,
                () -> x.addConstraint('#', 0, 1, 5));
        x.removeConstraint(3);
        CHECK.rejected("14 the same in front", LintelBrothers.SAME_CONSTRAINT, 10, x,
                () -> x.addConstraint('=', 0, 1, 5));
        CHECK.same("14 another second door is not the same", 11, () -> x.addConstraint('=', 0, 2, 5));
    }

    private static void removeConstraint() {
        LintelBrothers x = withDoors(2);
        CHECK.refused("15 none", java.util.NoSuchElementException.class, x, () -> x.removeConstraint(0));
        x.addConstraint('<', 0, 1, 3);
        x.addConstraint('=', 0, 1, 4);
        x.addConstraint('#', 0, 1, 5);
        x.settle();
        CHECK.same("15 removeConstraint", 2, () -> x.removeConstraint(1));
        CHECK.same("15 bounds are reset", 0, () -> x.lowOf(1));
        CHECK.same("15 bounds are reset", 40, () -> x.highOf(0));
        CHECK.same("15 the next moves up", 2, () -> x.constraintAt(1));
        CHECK.same("15 its kind too", '#', () -> x.kindOf(2));
        CHECK.same("15 its gap too", 5, () -> x.gapOf(2));
        CHECK.refused("15 again", java.util.NoSuchElementException.class, x, () -> x.removeConstraint(1));
        CHECK.same("15 ids are not used again", 3, () -> x.addConstraint('=', 0, 1, 4));
        CHECK.same("15 the last", 2, () -> x.removeConstraint(3));
        CHECK.same("15 the first", 1, () -> x.removeConstraint(0));
        CHECK.same("15 the only one", 0, () -> x.removeConstraint(2));
        CHECK.same("15 ids go on", 4, () -> x.addConstraint('<', 1, 0, 4));
    }

    private static void readConstraints() {
        LintelBrothers x = withDoors(4);
        CHECK.same("16 none", 0, x::constraintCount);
        x.addConstraint('<', 3, 1, 0);
        x.addConstraint('=', 0, 2, 20);
        x.addConstraint('#', 1, 0, 7);
        x.removeConstraint(0);
        CHECK.same("16 constraintCount", 2, x::constraintCount);
        CHECK.same("17 constraintAt", 1, () -> x.constraintAt(0));
        CHECK.same("17 constraintAt", 2, () -> x.constraintAt(1));
        CHECK.same("18 kindOf", '=', () -> x.kindOf(1));
        CHECK.same("18 kindOf", '#', () -> x.kindOf(2));
        CHECK.same("19 firstOf", 0, () -> x.firstOf(1));
        CHECK.same("19 firstOf", 1, () -> x.firstOf(2));
        CHECK.same("20 secondOf", 2, () -> x.secondOf(1));
        CHECK.same("20 secondOf", 0, () -> x.secondOf(2));
        CHECK.same("21 gapOf", 20, () -> x.gapOf(1));
        CHECK.same("21 gapOf", 7, () -> x.gapOf(2));
        for (int no : new int[] {-1, 2, 10, Integer.MAX_VALUE, Integer.MIN_VALUE}) {
            CHECK.refused("17 no position", java.util.NoSuchElementException.class, x, () -> x.constraintAt(no));
        }
        for (int no : new int[] {-1, 0, 3, 10, Integer.MAX_VALUE, Integer.MIN_VALUE}) {
            CHECK.refused("18 no id", java.util.NoSuchElementException.class, x, () -> x.kindOf(no));
            CHECK.refused("19 no id", java.util.NoSuchElementException.class, x, () -> x.firstOf(no));
            CHECK.refused("20 no id", java.util.NoSuchElementException.class, x, () -> x.secondOf(no));
            CHECK.refused("21 no id", java.util.NoSuchElementException.class, x, () -> x.gapOf(no));
            CHECK.refused("22 no id", java.util.NoSuchElementException.class, x, () -> x.isSafe(no));
            CHECK.refused("23 no id", java.util.NoSuchElementException.class, x, () -> x.isBroken(no));
        }
    }

    private static void judge(char kind, int[] bounds, int gap, boolean safe, boolean broken) {
        LintelBrothers x = new LintelBrothers();
        x.addDoor(bounds[0], bounds[1]);
        x.addDoor(bounds[2], bounds[3]);
        x.addConstraint(kind, 0, 1, gap);
        CHECK.same("22 isSafe " + kind, safe, () -> x.isSafe(0));
        CHECK.same("23 isBroken " + kind, broken, () -> x.isBroken(0));
        LintelBrothers narrowed = withDoors(2);
        narrowed.addConstraint(kind, 0, 1, gap);
        narrowed.narrow(0, bounds[0], bounds[1]);
        narrowed.narrow(1, bounds[2], bounds[3]);
        CHECK.same("22 isSafe is about bounds " + kind, safe, () -> narrowed.isSafe(0));
        CHECK.same("23 isBroken is about bounds " + kind, broken, () -> narrowed.isBroken(0));
    }

    private static void lower() {
        judge('<', new int[] {0, 5, 8, 9}, 3, true, false);
        judge('<', new int[] {0, 6, 8, 9}, 3, false, false);
        judge('<', new int[] {6, 9, 8, 9}, 3, false, false);
        judge('<', new int[] {7, 9, 8, 9}, 3, false, true);
        judge('<', new int[] {7, 7, 7, 7}, 0, true, false);
    }

    private static void exact() {
        judge('=', new int[] {5, 5, 8, 8}, 3, true, false);
        judge('=', new int[] {5, 6, 8, 9}, 3, false, false);
        judge('=', new int[] {5, 5, 8, 9}, 3, false, false);
        judge('=', new int[] {5, 6, 8, 8}, 3, false, false);
        judge('=', new int[] {5, 6, 9, 9}, 3, false, false);
        judge('=', new int[] {5, 6, 10, 10}, 3, false, true);
        judge('=', new int[] {7, 9, 8, 9}, 3, false, true);
        judge('=', new int[] {8, 8, 5, 5}, 3, false, true);
    }

    private static void apart() {
        judge('#', new int[] {5, 5, 8, 9}, 3, true, false);
        judge('#', new int[] {8, 9, 5, 5}, 3, true, false);
        judge('#', new int[] {5, 6, 8, 9}, 3, false, false);
        judge('#', new int[] {5, 6, 7, 8}, 3, false, false);
        judge('#', new int[] {6, 7, 7, 8}, 3, false, true);
        judge('#', new int[] {7, 8, 6, 7}, 2, false, false);
        judge('#', new int[] {7, 7, 7, 7}, 1, false, true);
        judge('#', new int[] {0, 40, 20, 20}, 20, false, false);
    }

    /** All small bounds and gaps, with each pair of heights tried. */
    private static void againstAllPairs() {
        for (int low = 0; low < 4; low++) {
            for (int high = low; high < 4; high++) {
                for (int otherLow = 0; otherLow < 4; otherLow++) {
                    for (int otherHigh = otherLow; otherHigh < 4; otherHigh++) {
                        judgeByPairs(new int[] {low, high, otherLow, otherHigh});
                    }
                }
            }
        }
    }

    private static void judgeByPairs(int[] bounds) {
        for (char kind : new char[] {'<', '=', '#'}) {
            for (int gap = kind == '#' ? 1 : 0; gap < 5; gap++) {
                boolean safe = true;
                boolean broken = true;
                for (int first = bounds[0]; first <= bounds[1]; first++) {
                    for (int second = bounds[2]; second <= bounds[3]; second++) {
                        boolean met = Model.isMet(kind, first, second, gap);
                        safe &= met;
                        broken &= !met;
                    }
                }
                judge(kind, bounds, gap, safe, broken);
            }
        }
    }
}
