import java.util.NoSuchElementException;

/** Promises 36 to 43: orders, shares and consistency. */
public final class OrderTests {
    private static final Check CHECK = new Check("OrderTests");

    public static void main(String[] args) {
        doorByWidth();
        constraintByGap();
        sums();
        shares();
        isConsistent();
        CHECK.end();
    }

    private static void doorByWidth() {
        LintelBrothers x = new LintelBrothers();
        CHECK.refused("36 no door", NoSuchElementException.class, x, () -> x.doorByWidth(0));
        x.addDoor(0, 10);
        x.addDoor(20, 30);
        x.addDoor(5, 5);
        x.addDoor(30, 40);
        x.addDoor(0, 40);
        x.addDoor(0, 9);
        order("equal widths by index", x, 2, 5, 0, 1, 3, 4);
        x.addConstraint('<', 0, 3, 1);
        order("more constraints first", x, 2, 5, 0, 3, 1, 4);
        x.addConstraint('<', 3, 4, 1);
        order("still more constraints first", x, 2, 5, 3, 0, 1, 4);
        x.addConstraint('#', 1, 4, 1);
        x.addConstraint('#', 1, 4, 2);
        x.addConstraint('#', 1, 4, 3);
        order("widths come first", x, 2, 5, 1, 3, 0, 4);
        x.narrow(4, 7, 8);
        order("the bounds count, not the frame", x, 2, 4, 5, 1, 3, 0);
        for (int no : new int[] {-1, 6, Integer.MAX_VALUE, Integer.MIN_VALUE}) {
            CHECK.refused("36 no position", NoSuchElementException.class, x, () -> x.doorByWidth(no));
        }
    }

    private static void order(String what, LintelBrothers x, int... doors) {
        for (int position = 0; position < doors.length; position++) {
            int at = position;
            CHECK.same("36 " + what, doors[position], () -> x.doorByWidth(at));
        }
    }

    private static void constraintByGap() {
        LintelBrothers x = new LintelBrothers();
        x.addDoor(0, 40);
        x.addDoor(0, 40);
        CHECK.refused("37 none", NoSuchElementException.class, x, () -> x.constraintByGap(0));
        x.addConstraint('<', 0, 1, 3);
        x.addConstraint('=', 0, 1, 7);
        x.addConstraint('#', 0, 1, 3);
        x.addConstraint('<', 1, 0, 0);
        x.addConstraint('<', 1, 0, 20);
        x.addConstraint('<', 1, 0, 3);
        int[] due = {4, 1, 0, 2, 5, 3};
        for (int position = 0; position < due.length; position++) {
            int at = position;
            CHECK.same("37 constraintByGap", due[position], () -> x.constraintByGap(at));
        }
        x.removeConstraint(0);
        CHECK.same("37 ids, not positions", 2, () -> x.constraintByGap(2));
        for (int no : new int[] {-1, 5, 10, Integer.MAX_VALUE, Integer.MIN_VALUE}) {
            CHECK.refused("37 no position", NoSuchElementException.class, x, () -> x.constraintByGap(no));
        }
    }

    private static void sums() {
        LintelBrothers x = new LintelBrothers();
        CHECK.same("38 none", 0, x::fixedCount);
        CHECK.same("39 none", 0, x::totalWidth);
        CHECK.same("40 none", 0, x::totalFrameWidth);
        x.addDoor(5, 30);
        x.addDoor(0, 20);
        x.addDoor(7, 7);
        CHECK.same("38 fixedCount", 1, x::fixedCount);
        CHECK.same("39 totalWidth", 48, x::totalWidth);
        CHECK.same("40 totalFrameWidth", 48, x::totalFrameWidth);
        x.narrow(0, 9, 9);
        x.narrow(1, 2, 3);
        CHECK.same("38 fixedCount", 2, x::fixedCount);
        CHECK.same("39 totalWidth", 4, x::totalWidth);
        CHECK.same("40 the frames stay", 48, x::totalFrameWidth);
    }

    private static void shares() {
        LintelBrothers x = new LintelBrothers();
        CHECK.refused("41 no doors", ArithmeticException.class, x, x::meanWidth);
        CHECK.refused("42 no doors", ArithmeticException.class, x, x::fixedShare);
        x.addDoor(5, 5);
        CHECK.same("41 meanWidth", 1.0, x::meanWidth);
        CHECK.same("42 fixedShare", 1.0f, x::fixedShare);
        x.addDoor(0, 2);
        x.addDoor(0, 0);
        CHECK.same("41 meanWidth", 5.0 / 3.0, x::meanWidth);
        CHECK.same("42 fixedShare", 2.0f / 3.0f, x::fixedShare);
        x.narrow(1, 1, 2);
        CHECK.same("41 meanWidth", 4.0 / 3.0, x::meanWidth);
        x.setFrame(0, 0, 40);
        x.setFrame(2, 0, 40);
        CHECK.same("42 none fixed", 0.0f, x::fixedShare);
    }

    /** No run of calls makes the data inconsistent, so this can only look at many states. */
    private static void isConsistent() {
        LintelBrothers x = new LintelBrothers();
        CHECK.same("43 no doors", true, x::isConsistent);
        for (int door = 0; door < 6; door++) {
            x.addDoor(door, 40 - door);
            x.narrow(door, 2 * door, 40);
            CHECK.same("43 doors", true, x::isConsistent);
        }
        for (int gap = 1; gap <= 10; gap++) {
            x.addConstraint(gap % 3 == 0 ? '=' : '<', gap % 6, gap / 2 % 6 == gap % 6 ? 5 - gap % 6 : gap / 2 % 6, gap);
            CHECK.same("43 constraints", true, x::isConsistent);
        }
        CHECK.same("43 is no pass", 0, x::passCount);
    }
}
