/** Promises 1 to 13: a new object, and doors. */
public final class DoorTests {
    private static final Check CHECK = new Check("DoorTests");

    public static void main(String[] args) {
        newObject();
        addDoor();
        setFrame();
        narrow();
        reset();
        readDoors();
        constraintsOf();
        CHECK.end();
    }

    private static void newObject() {
        LintelBrothers x = new LintelBrothers();
        CHECK.same("1 doorCount", 0, x::doorCount);
        CHECK.same("1 constraintCount", 0, x::constraintCount);
        CHECK.same("1 passCount", 0, x::passCount);
        CHECK.same("1 changeCount", 0, x::changeCount);
        CHECK.same("1 no rejection", "throws.NoSuchElementException", x::rejectionReason);
        CHECK.same("1 no syntax error", "throws.NoSuchElementException", x::syntaxErrorOffset);
        CHECK.same("1 no output", "throws.IndexOutOfBoundsException", () -> x.outputAt(0));
        CHECK.same("1 no change", "throws.IllegalStateException", x::undo);
        CHECK.same("1 no snapshot", "throws.IllegalStateException", x::restoreSnapshot);
        CHECK.same("1 isConsistent", true, x::isConsistent);
    }

    private static void addDoor() {
        LintelBrothers x = new LintelBrothers();
        int[][] wrong = {{-1, 0}, {5, 4}, {0, 41}, {41, 41}, {-1, -1}, {41, 40}, {0, -1},
            {Integer.MIN_VALUE, 0}, {0, Integer.MAX_VALUE}, {Integer.MAX_VALUE, Integer.MIN_VALUE}};
        for (int[] range : wrong) {
            CHECK.refused("2 addDoor of a wrong range", IllegalArgumentException.class, x,
                    () -> x.addDoor(range[0], range[1]));
        }
        int[][] right = {{0, 40}, {0, 0}, {40, 40}, {5, 30}, {39, 40}, {7, 7}};
        for (int door = 0; door < right.length; door++) {
            int added = door;
            int[] range = right[door];
            CHECK.same("2 addDoor", door, () -> x.addDoor(range[0], range[1]));
            CHECK.same("2 lowOf", range[0], () -> x.lowOf(added));
            CHECK.same("2 highOf", range[1], () -> x.highOf(added));
            CHECK.same("2 frameLow", range[0], () -> x.frameLow(added));
            CHECK.same("2 frameHigh", range[1], () -> x.frameHigh(added));
            CHECK.same("2 doorCount", door + 1, x::doorCount);
        }
        CHECK.rejected("2 a door too many", LintelBrothers.DOOR_LIMIT, 6, x, () -> x.addDoor(0, 40));
        CHECK.refused("2 the range comes first", IllegalArgumentException.class, x, () -> x.addDoor(3, 2));
    }

    private static void setFrame() {
        LintelBrothers x = new LintelBrothers();
        CHECK.refused("3 no door", IndexOutOfBoundsException.class, x, () -> x.setFrame(0, 0, 0));
        x.addDoor(5, 30);
        x.addDoor(0, 20);
        x.narrow(1, 4, 9);
        x.narrow(0, 5, 8);
        CHECK.refused("3 no such door", IndexOutOfBoundsException.class, x, () -> x.setFrame(2, 50, 0));
        CHECK.refused("3 no such door", IndexOutOfBoundsException.class, x, () -> x.setFrame(-1, 1, 2));
        CHECK.refused("3 a wrong range", IllegalArgumentException.class, x, () -> x.setFrame(1, 4, 3));
        CHECK.refused("3 a wrong range", IllegalArgumentException.class, x, () -> x.setFrame(1, -1, 3));
        CHECK.refused("3 a wrong range", IllegalArgumentException.class, x, () -> x.setFrame(1, 1, 41));
        CHECK.same("3 setFrame resets all bounds", 3, () -> x.setFrame(0, 5, 40));
        CHECK.same("3 frameLow", 5, () -> x.frameLow(0));
        CHECK.same("3 frameHigh", 40, () -> x.frameHigh(0));
        CHECK.same("3 highOf", 40, () -> x.highOf(0));
        CHECK.same("3 lowOf another door", 0, () -> x.lowOf(1));
        CHECK.same("3 highOf another door", 20, () -> x.highOf(1));
        CHECK.same("3 the same frame", 0, () -> x.setFrame(0, 5, 40));
        CHECK.same("3 one height", 2, () -> x.setFrame(1, 40, 40));
        x.narrow(0, 7, 9);
        CHECK.same("3 a frame like the bounds", 0, () -> x.setFrame(0, 7, 9));
    }

    private static void narrow() {
        LintelBrothers x = new LintelBrothers();
        CHECK.refused("4 no door", IndexOutOfBoundsException.class, x, () -> x.narrow(0, 0, 0));
        x.addDoor(5, 30);
        x.addDoor(5, 30);
        CHECK.refused("4 no such door", IndexOutOfBoundsException.class, x, () -> x.narrow(2, 4, 3));
        CHECK.refused("4 no such door", IndexOutOfBoundsException.class, x, () -> x.narrow(-1, 5, 6));
        CHECK.refused("4 a wrong range", IllegalArgumentException.class, x, () -> x.narrow(0, 9, 8));
        CHECK.refused("4 a wrong range", IllegalArgumentException.class, x, () -> x.narrow(0, -1, 8));
        CHECK.refused("4 a wrong range", IllegalArgumentException.class, x, () -> x.narrow(0, 9, 41));
        CHECK.same("4 nothing narrower", 0, () -> x.narrow(0, 0, 40));
        CHECK.same("4 one bound", 1, () -> x.narrow(0, 6, 40));
        CHECK.same("4 the other bound", 1, () -> x.narrow(0, 0, 29));
        CHECK.same("4 both bounds", 2, () -> x.narrow(0, 10, 20));
        CHECK.same("4 lowOf", 10, () -> x.lowOf(0));
        CHECK.same("4 highOf", 20, () -> x.highOf(0));
        CHECK.same("4 the frame stays", 5, () -> x.frameLow(0));
        CHECK.same("4 another door stays", 30, () -> x.highOf(1));
        CHECK.rejected("4 above", LintelBrothers.EMPTY, 10, x, () -> x.narrow(0, 21, 40));
        CHECK.rejected("4 below", LintelBrothers.EMPTY, 10, x, () -> x.narrow(0, 0, 9));
        CHECK.same("4 the last height", 1, () -> x.narrow(0, 20, 25));
        CHECK.rejected("4 a fixed door", LintelBrothers.EMPTY, 20, x, () -> x.narrow(0, 19, 19));
        CHECK.same("4 its height", 0, () -> x.narrow(0, 20, 20));
    }

    private static void reset() {
        LintelBrothers x = new LintelBrothers();
        CHECK.same("5 no doors", 0, x::reset);
        x.addDoor(5, 30);
        x.addDoor(0, 20);
        CHECK.same("5 nothing different", 0, x::reset);
        x.narrow(0, 6, 29);
        x.narrow(1, 0, 19);
        CHECK.same("5 three bounds", 3, x::reset);
        CHECK.same("5 lowOf", 5, () -> x.lowOf(0));
        CHECK.same("5 highOf", 30, () -> x.highOf(0));
        CHECK.same("5 highOf", 20, () -> x.highOf(1));
        CHECK.same("5 counts stay", 0, x::passCount);
    }

    private static void readDoors() {
        LintelBrothers x = new LintelBrothers();
        x.addDoor(3, 33);
        x.addDoor(8, 8);
        x.narrow(0, 4, 31);
        CHECK.same("6 doorCount", 2, x::doorCount);
        CHECK.same("7 lowOf", 4, () -> x.lowOf(0));
        CHECK.same("8 highOf", 31, () -> x.highOf(0));
        CHECK.same("9 frameLow", 3, () -> x.frameLow(0));
        CHECK.same("10 frameHigh", 33, () -> x.frameHigh(0));
        CHECK.same("11 widthOf", 28, () -> x.widthOf(0));
        CHECK.same("11 widthOf", 1, () -> x.widthOf(1));
        CHECK.same("12 isFixed", false, () -> x.isFixed(0));
        CHECK.same("12 isFixed", true, () -> x.isFixed(1));
        x.narrow(0, 30, 31);
        CHECK.same("12 two heights are not fixed", false, () -> x.isFixed(0));
        x.narrow(0, 31, 31);
        CHECK.same("12 narrowed to one height", true, () -> x.isFixed(0));
        for (int door : new int[] {-1, 2, 6, Integer.MAX_VALUE, Integer.MIN_VALUE}) {
            CHECK.refused("7 no door", IndexOutOfBoundsException.class, x, () -> x.lowOf(door));
            CHECK.refused("8 no door", IndexOutOfBoundsException.class, x, () -> x.highOf(door));
            CHECK.refused("9 no door", IndexOutOfBoundsException.class, x, () -> x.frameLow(door));
            CHECK.refused("10 no door", IndexOutOfBoundsException.class, x, () -> x.frameHigh(door));
            CHECK.refused("11 no door", IndexOutOfBoundsException.class, x, () -> x.widthOf(door));
            CHECK.refused("12 no door", IndexOutOfBoundsException.class, x, () -> x.isFixed(door));
            CHECK.refused("13 no door", IndexOutOfBoundsException.class, x, () -> x.constraintsOf(door));
        }
    }

    private static void constraintsOf() {
        LintelBrothers x = new LintelBrothers();
        x.addDoor(0, 40);
        x.addDoor(0, 40);
        x.addDoor(0, 40);
        CHECK.same("13 none", 0, () -> x.constraintsOf(0));
        x.addConstraint('<', 0, 1, 3);
        x.addConstraint('=', 2, 0, 3);
        x.addConstraint('#', 0, 1, 3);
        CHECK.same("13 first and second", 3, () -> x.constraintsOf(0));
        CHECK.same("13 second", 2, () -> x.constraintsOf(1));
        CHECK.same("13 first", 1, () -> x.constraintsOf(2));
        x.removeConstraint(1);
        CHECK.same("13 after a removal", 2, () -> x.constraintsOf(0));
        CHECK.same("13 after a removal", 0, () -> x.constraintsOf(2));
    }
}
