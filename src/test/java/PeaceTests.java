import java.util.NoSuchElementException;

/** Promises 32 to 35: peace. */
public final class PeaceTests {
    private static final Check CHECK = new Check("PeaceTests");

    public static void main(String[] args) {
        noDoors();
        firstPeace();
        lowestDoorFirst();
        noPeace();
        manyApart();
        sixDoors();
        arePossible();
        againstAllChoices();
        CHECK.end();
    }

    private static LintelBrothers equalDoors(int doors, int low, int high) {
        LintelBrothers x = new LintelBrothers();
        for (int door = 0; door < doors; door++) {
            x.addDoor(low, high);
        }
        return x;
    }

    private static void peace(String what, LintelBrothers x, int... heights) {
        CHECK.same("32 " + what, true, x::hasPeace);
        int sum = 0;
        for (int door = 0; door < heights.length; door++) {
            int at = door;
            CHECK.same("33 " + what, heights[door], () -> x.peaceHeight(at));
            sum += heights[door];
        }
        CHECK.same("34 " + what, sum, x::peaceSum);
    }

    private static void noDoors() {
        LintelBrothers x = new LintelBrothers();
        peace("no doors", x);
        CHECK.refused("33 no door", IndexOutOfBoundsException.class, x, () -> x.peaceHeight(0));
        CHECK.refused("35 no door", IndexOutOfBoundsException.class, x, () -> x.arePossible(0, 0, 0, 0));
    }

    private static void firstPeace() {
        LintelBrothers x = equalDoors(3, 2, 40);
        peace("no constraints", x, 2, 2, 2);
        x.addConstraint('<', 0, 1, 3);
        peace("lower", x, 2, 5, 2);
        x.addConstraint('=', 2, 0, 10);
        peace("exact", x, 12, 15, 2);
        x.addConstraint('#', 1, 0, 4);
        peace("apart", x, 12, 16, 2);
        x.narrow(1, 0, 16);
        peace("the high bound", x, 12, 16, 2);
        x.narrow(1, 0, 15);
        CHECK.same("32 above the high bound", false, x::hasPeace);
        for (int door : new int[] {-1, 3, 6, Integer.MAX_VALUE, Integer.MIN_VALUE}) {
            CHECK.refused("33 no door", IndexOutOfBoundsException.class, x, () -> x.peaceHeight(door));
        }
    }

    private static void lowestDoorFirst() {
        LintelBrothers x = equalDoors(2, 0, 40);
        x.addConstraint('#', 1, 0, 20);
        peace("the first door is low", x, 0, 20);
        LintelBrothers y = equalDoors(3, 0, 40);
        y.addConstraint('#', 0, 1, 5);
        y.addConstraint('#', 0, 2, 3);
        y.addConstraint('<', 1, 0, 0);
        peace("the first door can't be low", y, 5, 0, 0);
        LintelBrothers z = equalDoors(3, 0, 40);
        z.addConstraint('#', 1, 2, 5);
        z.addConstraint('<', 2, 0, 2);
        peace("a height of door 2 is less than one of door 1", z, 2, 5, 0);
        z.setFrame(0, 10, 20);
        peace("the lower index counts", z, 10, 0, 5);
    }

    private static void noPeace() {
        LintelBrothers x = equalDoors(3, 0, 40);
        x.addConstraint('#', 0, 1, 20);
        x.addConstraint('#', 1, 2, 20);
        x.addConstraint('#', 0, 2, 20);
        peace("just wide enough", x, 0, 20, 40);
        x.setFrame(2, 0, 39);
        peace("in another order", x, 0, 40, 20);
        x.setFrame(1, 1, 39);
        peace("door 0 must be the highest or the lowest", x, 40, 20, 0);
        x.setFrame(0, 1, 39);
        CHECK.same("32 no room", false, x::hasPeace);
    }

    private static void manyApart() {
        LintelBrothers x = equalDoors(5, 0, 40);
        for (int first = 0; first < 5; first++) {
            for (int second = first + 1; second < 5; second++) {
                x.addConstraint('#', first, second, 10);
            }
        }
        peace("ten constraints apart", x, 0, 10, 20, 30, 40);
        x.setFrame(3, 0, 25);
        peace("another order", x, 0, 10, 30, 20, 40);
        x.setFrame(4, 1, 40);
        x.setFrame(0, 0, 39);
        peace("frames around", x, 0, 10, 30, 20, 40);
        x.setFrame(2, 1, 39);
        x.setFrame(1, 1, 39);
        x.setFrame(3, 1, 39);
        x.setFrame(0, 1, 40);
        CHECK.same("32 one height too few", false, x::hasPeace);
        CHECK.refused("33 no peace", NoSuchElementException.class, x, () -> x.peaceHeight(0));
        CHECK.refused("33 no door comes first", IndexOutOfBoundsException.class, x, () -> x.peaceHeight(5));
        CHECK.refused("34 no peace", NoSuchElementException.class, x, x::peaceSum);
        CHECK.same("35 no peace", false, () -> x.arePossible(0, 1, 1, 11));
    }

    private static void sixDoors() {
        LintelBrothers x = equalDoors(6, 1, 3);
        for (int door = 0; door < 5; door++) {
            x.addConstraint('#', door, door + 1, 2);
        }
        peace("six doors", x, 1, 3, 1, 3, 1, 3);
        x.addConstraint('#', 5, 0, 1);
        x.setFrame(5, 1, 2);
        peace("six doors from the last one", x, 3, 1, 3, 1, 3, 1);
        x.setFrame(0, 1, 2);
        CHECK.same("32 six doors", false, x::hasPeace);
        x.setFrame(0, 0, 3);
        x.setFrame(5, 0, 3);
        peace("six doors again", x, 0, 3, 1, 3, 1, 3);
    }

    private static void arePossible() {
        LintelBrothers x = equalDoors(3, 2, 30);
        x.addConstraint('<', 0, 1, 3);
        x.addConstraint('#', 1, 2, 5);
        CHECK.same("35 possible", true, () -> x.arePossible(0, 12, 1, 15));
        CHECK.same("35 exchanged", true, () -> x.arePossible(1, 15, 0, 12));
        CHECK.same("35 too near", false, () -> x.arePossible(0, 13, 1, 15));
        CHECK.same("35 not apart", false, () -> x.arePossible(2, 11, 1, 15));
        CHECK.same("35 the same door", true, () -> x.arePossible(0, 12, 0, 12));
        CHECK.same("35 two heights of a door", false, () -> x.arePossible(0, 12, 0, 13));
        CHECK.same("35 a height that leaves no peace", false, () -> x.arePossible(0, 28, 0, 28));
        CHECK.same("35 below the bounds", false, () -> x.arePossible(0, 1, 1, 15));
        CHECK.same("35 above the bounds", false, () -> x.arePossible(0, 12, 1, 31));
        CHECK.same("35 the bounds themselves", true, () -> x.arePossible(0, 2, 1, 30));
        x.narrow(2, 20, 22);
        CHECK.same("35 the third door", false, () -> x.arePossible(0, 12, 1, 18));
        CHECK.same("35 the third door", true, () -> x.arePossible(0, 12, 1, 17));
        CHECK.same("35 bounds stay", 2, () -> x.lowOf(0));
        for (int door : new int[] {-1, 3, 6, Integer.MAX_VALUE, Integer.MIN_VALUE}) {
            CHECK.refused("35 no first door", IndexOutOfBoundsException.class, x,
                    () -> x.arePossible(door, 12, 1, 15));
            CHECK.refused("35 no second door", IndexOutOfBoundsException.class, x,
                    () -> x.arePossible(0, 12, door, 15));
            CHECK.refused("35 the doors come first", IndexOutOfBoundsException.class, x,
                    () -> x.arePossible(0, 41, door, 15));
        }
        for (int height : new int[] {-1, 41, Integer.MAX_VALUE, Integer.MIN_VALUE}) {
            CHECK.refused("35 no first height", IllegalArgumentException.class, x,
                    () -> x.arePossible(0, height, 1, 15));
            CHECK.refused("35 no second height", IllegalArgumentException.class, x,
                    () -> x.arePossible(0, 12, 1, height));
        }
        CHECK.same("35 height 0", false, () -> x.arePossible(0, 0, 1, 15));
        CHECK.same("35 height 40", false, () -> x.arePossible(0, 12, 1, 40));
    }

    /** For three doors of small frames, every pair of heights is judged by trying all heights of the third. */
    private static void againstAllChoices() {
        LintelBrothers x = new LintelBrothers();
        x.addDoor(1, 5);
        x.addDoor(0, 6);
        x.addDoor(2, 4);
        x.addConstraint('#', 0, 1, 2);
        x.addConstraint('#', 2, 1, 3);
        x.addConstraint('<', 0, 2, 1);
        for (int first = 0; first <= 7; first++) {
            for (int second = 0; second <= 7; second++) {
                boolean possible = false;
                for (int third = 2; third <= 4; third++) {
                    possible |= first >= 1 && first <= 5 && second <= 6 && Math.abs(first - second) >= 2
                            && Math.abs(third - second) >= 3 && first + 1 <= third;
                }
                int height = first;
                int otherHeight = second;
                CHECK.same("35 of doors 0 and 1: " + first + " " + second, possible,
                        () -> x.arePossible(0, height, 1, otherHeight));
            }
        }
    }
}
