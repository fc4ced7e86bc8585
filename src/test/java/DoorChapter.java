import java.util.NoSuchElementException;

/** Promises 1 to 13: a new object, and doors. */
final class DoorChapter extends Chapter {
    private static final Class<IllegalArgumentException> NO_RANGE = IllegalArgumentException.class;
    private static final Class<IndexOutOfBoundsException> NO_DOOR = IndexOutOfBoundsException.class;
    /** The indexes of six doors. */
    private static final int[] DOORS = {0, 1, 2, 3, 4, 5};
    private static final String INDEX_OF_A_DOOR = "- `door`: the index of a door";
    private static final String NO_SUCH_DOOR = "Throws `IndexOutOfBoundsException` if there is no such door";
    private static final String OUT_OF_RANGE = "Throws `IllegalArgumentException` if low or high is out of range";

    /** Six doors with frames and bounds that all differ. */
    private static final Scene SIX = () -> {
        LintelBrothers x = Scenes.doors(0, 40, 1, 39, 2, 38, 3, 37, 4, 36, 5, 35);
        for (int door : DOORS) {
            x.narrow(door, 6 + door, 30 - 2 * door);
        }
        return x;
    };

    DoorChapter(Sentences sentences) {
        super(sentences);
    }

    @Override
    void tell() {
        promise(1);
        holds("Creates a solver without doors.", this::newObject);
        promise(2);
        addDoor();
        promise(3);
        setFrame();
        promise(4);
        narrow();
        promise(5);
        reset();
        promise(6);
        holds("Returns the number of doors.", () -> {
            LintelBrothers x = new LintelBrothers();
            same(0, x::doorCount);
            for (int doors = 1; doors <= 6; doors++) {
                x.addDoor(0, 40);
                same(doors, x::doorCount);
            }
            Check.answer(() -> x.addDoor(0, 40));
            same(6, x::doorCount);
            x.undo();
            same(5, x::doorCount);
            same(3, () -> Scenes.SOME.make().doorCount());
        });
        bounds();
        frames();
        widths();
        promise(13);
        constraintsOf();
    }

    private void newObject() {
        LintelBrothers x = new LintelBrothers();
        same(0, x::doorCount);
        same(0, x::constraintCount);
        same(0, x::passCount);
        same(0, x::changeCount);
        same(0, x::fixedCount);
        same(0, x::totalWidth);
        same(0, x::totalFrameWidth);
        same(true, x::hasPeace);
        same(true, x::isSettled);
        same(true, x::isConsistent);
        throwing(NoSuchElementException.class, x::rejectionReason);
        throwing(NoSuchElementException.class, x::rejectionDetail);
        throwing(NoSuchElementException.class, x::causeReason);
        throwing(NoSuchElementException.class, x::syntaxErrorOffset);
        throwing(IndexOutOfBoundsException.class, () -> x.outputAt(0));
        throwing(IllegalStateException.class, x::undo);
        throwing(IllegalStateException.class, x::restoreSnapshot);
        same(0, () -> Facts.inputLength(new LintelBrothers()));
        same(0, () -> x.addDoor(0, 0));
        same(0, () -> new LintelBrothers().doorCount());
    }

    /** The call takes low bounds from 0, and none that is outside of 0 to 40. */
    private void lows(Class<? extends RuntimeException> due, Numbered callWithLow) {
        for (int low : new int[] {0, 1, 9, 10, 39, 40}) {
            same(true, () -> callWithLow.with(new LintelBrothers(), low) instanceof Integer);
        }
        for (int low : outside(0, 40)) {
            throwing(due, () -> callWithLow.with(new LintelBrothers(), low));
        }
    }

    // ---- promise 2

    private void addDoor() {
        holds("Adds a door.", () -> {
            LintelBrothers x = new LintelBrothers();
            x.addDoor(3, 9);
            same(1, x::doorCount);
            x.addDoor(3, 9);
            same(2, x::doorCount);
            leaves(Scenes.SOME, y -> {
                y.addDoor(1, 2);
                return y.undo();
            });
            Scene added = Scenes.SOME.then(y -> y.addDoor(1, 2));
            same("12-29 12-12 7-7 1-2", () -> Look.allBounds(added.make()));
            same(Facts.of(Scenes.SOME).get(Facts.INPUT_LENGTH), () -> "" + Facts.inputLength(added.make()));
        });
        holds("Its frame and its bounds are the same.", () -> {
            int[][] frames = {{0, 40}, {0, 0}, {40, 40}, {5, 30}, {39, 40}, {7, 10}};
            LintelBrothers x = new LintelBrothers();
            for (int door : DOORS) {
                x.addDoor(frames[door][0], frames[door][1]);
                same(frames[door][0], () -> x.frameLow(door));
                same(frames[door][1], () -> x.frameHigh(door));
                same(frames[door][0], () -> x.lowOf(door));
                same(frames[door][1], () -> x.highOf(door));
            }
        });
        holds("- `low`: the lowest height, 0 to 40", () -> {
            lows(NO_RANGE, (x, low) -> x.addDoor(low, 40));
            for (int low : new int[] {0, 40}) {
                LintelBrothers x = new LintelBrothers();
                x.addDoor(low, 40);
                same(low, () -> x.frameLow(0));
            }
        });
        holds("- `high`: the greatest height, low to 40", () -> {
            for (int low : new int[] {0, 5, 39, 40}) {
                same(0, () -> new LintelBrothers().addDoor(low, low));
                same(0, () -> new LintelBrothers().addDoor(low, 40));
                for (int high : outside(low, 40)) {
                    throwing(NO_RANGE, () -> new LintelBrothers().addDoor(low, high));
                }
            }
        });
        holds("Returns the index of the door.", () -> {
            LintelBrothers x = new LintelBrothers();
            for (int door : DOORS) {
                same(door, () -> x.addDoor(10, 20));
            }
            x.undo();
            same(5, () -> x.addDoor(1, 2));
            same("1-2", () -> Look.bounds(x, 5));
        });
        holds(OUT_OF_RANGE, () -> {
            for (Scene scene : new Scene[] {Scenes.NOTHING, Scenes.SOME, Scenes.FULL}) {
                refusesAll(NO_RANGE, scene, outside(0, 40), (x, low) -> x.addDoor(low, 40));
                refusesAll(NO_RANGE, scene, outside(6, 40), (x, high) -> x.addDoor(6, high));
                refusesAll(NO_RANGE, scene, outside(0, 40), (x, both) -> x.addDoor(both, both));
            }
        });
        holds("Throws `UnsupportedOperationException` if the call is rejected with the reason DOOR_LIMIT", () -> {
            rejected(LintelBrothers.DOOR_LIMIT, 6, SIX, x -> x.addDoor(0, 40));
            rejected(LintelBrothers.DOOR_LIMIT, 6, Scenes.FULL, x -> x.addDoor(40, 40));
            LintelBrothers undone = SIX.make();
            for (int undo = 0; undo < 7; undo++) {
                undone.undo();
            }
            same(5, () -> undone.addDoor(0, 40));
        });
    }

    // ---- promise 3

    private void setFrame() {
        holds("Changes the frame of a door, and resets all bounds.", () -> {
            for (int door : DOORS) {
                LintelBrothers x = SIX.make();
                x.setFrame(door, 10, 11);
                StringBuilder due = new StringBuilder();
                for (int other : DOORS) {
                    due.append(other > 0 ? " " : "").append(other == door ? "10-11" : other + "-" + (40 - other));
                }
                same(due.toString(), () -> Look.allBounds(x));
                same(10, () -> x.frameLow(door));
                same(11, () -> x.frameHigh(door));
                same(5 - door, () -> x.frameLow(5 - door));
            }
        });
        holds(INDEX_OF_A_DOOR, () -> {
            for (int door : DOORS) {
                LintelBrothers x = SIX.make();
                x.setFrame(door, 17, 17);
                same(true, () -> x.isFixed(door));
                same(1, x::fixedCount);
            }
        });
        holds("- `low`: the new lowest height, 0 to 40", () -> lows(NO_RANGE, (x, low) -> {
            x.addDoor(3, 4);
            return x.setFrame(0, low, 40);
        }));
        holds("- `high`: the new greatest height, low to 40", () -> {
            for (int low : new int[] {0, 5, 39, 40}) {
                same(true, () -> Scenes.doors(3, 4).setFrame(0, low, low) >= 0);
                same(true, () -> Scenes.doors(3, 4).setFrame(0, low, 40) >= 0);
                for (int high : outside(low, 40)) {
                    throwing(NO_RANGE, () -> Scenes.doors(3, 4).setFrame(0, low, high));
                }
            }
        });
        holds("Returns the number of bounds of all doors that are different after the call.", () -> {
            same(12, () -> SIX.make().setFrame(0, 0, 40));
            same(10, () -> SIX.make().setFrame(0, 6, 30));
            same(11, () -> SIX.make().setFrame(0, 6, 31));
            same(11, () -> SIX.make().setFrame(5, 10, 20));
            same(0, () -> Scenes.doors(5, 9, 0, 40).setFrame(0, 5, 9));
            same(1, () -> Scenes.doors(5, 9, 0, 40).setFrame(0, 4, 9));
            same(1, () -> Scenes.doors(5, 9, 0, 40).setFrame(0, 5, 8));
            same(2, () -> Scenes.doors(5, 9, 0, 40).setFrame(0, 9, 10));
            same(0, () -> Scenes.narrowed(5, 9).setFrame(0, 5, 9));
            same(1, () -> Scenes.narrowed(0, 40, 5, 40).setFrame(0, 0, 40));
        });
        holds(NO_SUCH_DOOR, () -> refusesOtherDoors((x, door) -> x.setFrame(door, 5, 9)));
        holds(OUT_OF_RANGE, () -> {
            for (Scene scene : new Scene[] {Scenes.SOME, Scenes.FULL}) {
                refusesAll(NO_RANGE, scene, outside(0, 40), (x, low) -> x.setFrame(1, low, 40));
                refusesAll(NO_RANGE, scene, outside(6, 40), (x, high) -> x.setFrame(1, 6, high));
            }
            refusesAll(NO_DOOR, Scenes.SOME, outside(0, 2), (x, door) -> x.setFrame(door, 9, 8));
        });
    }

    // ---- promise 4

    private void narrow() {
        holds("Narrows the bounds of a door to heights that are in a range, too.", () -> {
            int[][] ranges = {{0, 40, 10, 20}, {10, 20, 10, 20}, {9, 21, 10, 20}, {11, 40, 11, 20}, {0, 19, 10, 19},
                {12, 15, 12, 15}, {20, 40, 20, 20}, {0, 10, 10, 10}, {15, 15, 15, 15}};
            for (int[] range : ranges) {
                LintelBrothers x = Scenes.narrowed(3, 7, 10, 20, 3, 7);
                x.narrow(1, range[0], range[1]);
                same("3-7 " + range[2] + "-" + range[3] + " 3-7", () -> Look.allBounds(x));
                same(0, () -> x.frameLow(1));
                same(40, () -> x.frameHigh(1));
            }
        });
        holds(INDEX_OF_A_DOOR, () -> {
            for (int door : DOORS) {
                LintelBrothers x = SIX.make();
                x.narrow(door, 15, 15);
                same("15-15", () -> Look.bounds(x, door));
                same(1, x::fixedCount);
            }
        });
        holds("- `low`: the lowest height of the range, 0 to 40", () -> lows(NO_RANGE, (x, low) -> {
            x.addDoor(0, 40);
            return x.narrow(0, low, 40);
        }));
        holds("- `high`: the greatest height of the range, low to 40", () -> {
            for (int low : new int[] {0, 5, 39, 40}) {
                same(true, () -> Scenes.doors(0, 40).narrow(0, low, low) > 0);
                same(true, () -> Scenes.doors(0, 40).narrow(0, low, 40) >= 0);
                for (int high : outside(low, 40)) {
                    throwing(NO_RANGE, () -> Scenes.doors(0, 40).narrow(0, low, high));
                }
            }
        });
        holds("Returns the number of bounds of the door that are different after the call.", () -> {
            same(0, () -> Scenes.narrowed(10, 20, 0, 40).narrow(0, 0, 40));
            same(0, () -> Scenes.narrowed(10, 20, 0, 40).narrow(0, 10, 20));
            same(1, () -> Scenes.narrowed(10, 20, 0, 40).narrow(0, 11, 20));
            same(1, () -> Scenes.narrowed(10, 20, 0, 40).narrow(0, 10, 19));
            same(1, () -> Scenes.narrowed(10, 20, 0, 40).narrow(0, 0, 10));
            same(1, () -> Scenes.narrowed(10, 20, 0, 40).narrow(0, 20, 40));
            same(2, () -> Scenes.narrowed(10, 20, 0, 40).narrow(0, 11, 19));
            same(2, () -> Scenes.narrowed(10, 20, 0, 40).narrow(0, 15, 15));
        });
        holds(NO_SUCH_DOOR, () -> refusesOtherDoors((x, door) -> x.narrow(door, 5, 9)));
        holds(OUT_OF_RANGE, () -> {
            for (Scene scene : new Scene[] {Scenes.SOME, Scenes.FULL}) {
                refusesAll(NO_RANGE, scene, outside(0, 40), (x, low) -> x.narrow(1, low, 40));
                refusesAll(NO_RANGE, scene, outside(6, 40), (x, high) -> x.narrow(1, 6, high));
            }
            refusesAll(NO_DOOR, Scenes.SOME, outside(0, 2), (x, door) -> x.narrow(door, 9, 8));
        });
        holds("Throws `UnsupportedOperationException` if the call is rejected with the reason EMPTY", () -> {
            Scene scene = () -> Scenes.narrowed(10, 20, 0, 40, 40, 40, 0, 0);
            rejected(LintelBrothers.EMPTY, 10, scene, x -> x.narrow(0, 0, 9));
            rejected(LintelBrothers.EMPTY, 10, scene, x -> x.narrow(0, 21, 40));
            rejected(LintelBrothers.EMPTY, 40, scene, x -> x.narrow(2, 0, 39));
            rejected(LintelBrothers.EMPTY, 0, scene, x -> x.narrow(3, 1, 40));
            rejected(LintelBrothers.EMPTY, 12, Scenes.SOME, x -> x.narrow(1, 11, 11));
            rejected(LintelBrothers.EMPTY, 3, Scenes.FULL, x -> x.narrow(2, 39, 40));
            same(1, () -> scene.make().narrow(0, 0, 10));
            same(1, () -> scene.make().narrow(0, 20, 40));
            same(0, () -> scene.make().narrow(2, 40, 40));
            same(0, () -> scene.make().narrow(3, 0, 0));
        });
    }

    // ---- promise 5

    private void reset() {
        holds("Resets all bounds.", () -> {
            LintelBrothers x = SIX.make();
            x.reset();
            same("0-40 1-39 2-38 3-37 4-36 5-35", () -> Look.allBounds(x));
            LintelBrothers afterPass = Scenes.SOME.make();
            afterPass.reset();
            same("2-38 0-20 7-7", () -> Look.allBounds(afterPass));
            same(1, afterPass::passCount);
            same(3, afterPass::changeCount);
            same("0 2", () -> Look.ids(afterPass));
        });
        holds("Returns the number of bounds that are different after the call.", () -> {
            same(0, () -> new LintelBrothers().reset());
            same(12, () -> SIX.make().reset());
            same(4, () -> Scenes.SOME.make().reset());
            same(0, () -> SIX.then(LintelBrothers::reset).make().reset());
            same(1, () -> Scenes.narrowed(1, 40, 0, 40).reset());
            same(1, () -> Scenes.narrowed(0, 40, 0, 39).reset());
            same(3, () -> Scenes.narrowed(1, 40, 1, 39).reset());
        });
    }

    // ---- promises 7 to 13: questions about a door

    /** The six answers of a scene, and the indexes of no door. */
    private void indexes(Scene scene, Numbered question, Object... due) {
        holds(INDEX_OF_A_DOOR, () -> {
            for (int door : DOORS) {
                same(due[door], () -> question.with(scene.make(), door));
            }
        });
    }

    private void noSuchDoor(Numbered question) {
        holds(NO_SUCH_DOOR, () -> refusesOtherDoors(question));
    }

    /** Answers that are heights at both ends. */
    private void heights(Numbered question, boolean isLow) {
        holds("Returns the height.", () -> {
            for (int height : new int[] {0, 1, 9, 10, 39, 40}) {
                same(height, () -> question.with(Scenes.doors(height, height), 0));
                same(isLow ? 0 : height, () -> question.with(Scenes.doors(0, height), 0));
                same(isLow ? height : 40, () -> question.with(Scenes.doors(height, 40), 0));
            }
        });
    }

    private void bounds() {
        promise(7);
        holds("Returns the low bound of a door.", () -> {
            LintelBrothers x = Scenes.doors(5, 30, 0, 20);
            same(5, () -> x.lowOf(0));
            x.narrow(0, 8, 29);
            same(8, () -> x.lowOf(0));
            x.addConstraint('<', 0, 1, 3);
            x.pass();
            same(11, () -> x.lowOf(1));
            x.reset();
            same(0, () -> x.lowOf(1));
        });
        indexes(SIX, LintelBrothers::lowOf, 6, 7, 8, 9, 10, 11);
        heights(LintelBrothers::lowOf, true);
        noSuchDoor(LintelBrothers::lowOf);
        promise(8);
        holds("Returns the high bound of a door.", () -> {
            LintelBrothers x = Scenes.doors(5, 30, 0, 20);
            same(30, () -> x.highOf(0));
            x.narrow(0, 8, 29);
            same(29, () -> x.highOf(0));
            x.addConstraint('<', 0, 1, 3);
            x.pass();
            same(17, () -> x.highOf(0));
            x.reset();
            same(30, () -> x.highOf(0));
        });
        indexes(SIX, LintelBrothers::highOf, 30, 28, 26, 24, 22, 20);
        heights(LintelBrothers::highOf, false);
        noSuchDoor(LintelBrothers::highOf);
    }

    private void frames() {
        promise(9);
        holds("Returns the lowest height of the frame of a door.", () -> {
            LintelBrothers x = Scenes.doors(5, 30);
            x.narrow(0, 8, 29);
            same(5, () -> x.frameLow(0));
            x.setFrame(0, 7, 12);
            same(7, () -> x.frameLow(0));
        });
        indexes(SIX, LintelBrothers::frameLow, 0, 1, 2, 3, 4, 5);
        heights(LintelBrothers::frameLow, true);
        noSuchDoor(LintelBrothers::frameLow);
        promise(10);
        holds("Returns the greatest height of the frame of a door.", () -> {
            LintelBrothers x = Scenes.doors(5, 30);
            x.narrow(0, 8, 29);
            same(30, () -> x.frameHigh(0));
            x.setFrame(0, 7, 12);
            same(12, () -> x.frameHigh(0));
        });
        indexes(SIX, LintelBrothers::frameHigh, 40, 39, 38, 37, 36, 35);
        heights(LintelBrothers::frameHigh, false);
        noSuchDoor(LintelBrothers::frameHigh);
    }

    private void widths() {
        promise(11);
        holds("Returns the width of a door: the number of heights within its bounds.", () -> {
            LintelBrothers x = Scenes.doors(5, 30);
            same(26, () -> x.widthOf(0));
            x.narrow(0, 8, 29);
            same(22, () -> x.widthOf(0));
            x.narrow(0, 8, 9);
            same(2, () -> x.widthOf(0));
        });
        indexes(SIX, LintelBrothers::widthOf, 25, 22, 19, 16, 13, 10);
        holds("Returns the width.", () -> {
            same(41, () -> Scenes.doors(0, 40).widthOf(0));
            same(40, () -> Scenes.doors(1, 40).widthOf(0));
            same(1, () -> Scenes.doors(0, 0).widthOf(0));
            same(1, () -> Scenes.doors(40, 40).widthOf(0));
            same(1, () -> Scenes.narrowed(7, 7).widthOf(0));
        });
        noSuchDoor(LintelBrothers::widthOf);
        promise(12);
        holds("Tells whether a door is fixed: whether its width is 1.", () -> {
            LintelBrothers x = Scenes.doors(5, 30);
            same(false, () -> x.isFixed(0));
            x.narrow(0, 8, 9);
            same(false, () -> x.isFixed(0));
            x.narrow(0, 9, 9);
            same(true, () -> x.isFixed(0));
            x.reset();
            same(false, () -> x.isFixed(0));
        });
        indexes(SIX.then(x -> {
            x.narrow(0, 9, 9);
            x.narrow(3, 20, 20);
            return x.narrow(5, 20, 20);
        }), LintelBrothers::isFixed, true, false, false, true, false, true);
        holds("Returns whether it is fixed.", () -> {
            same(true, () -> Scenes.doors(0, 0).isFixed(0));
            same(true, () -> Scenes.doors(40, 40).isFixed(0));
            same(true, () -> Scenes.narrowed(1, 1).isFixed(0));
            same(false, () -> Scenes.doors(0, 1).isFixed(0));
            same(false, () -> Scenes.doors(39, 40).isFixed(0));
            same(false, () -> Scenes.doors(0, 40).isFixed(0));
        });
        noSuchDoor(LintelBrothers::isFixed);
    }

    private void constraintsOf() {
        holds("Returns the number of constraints in which a door takes part.", () -> {
            LintelBrothers x = Scenes.doors(0, 40, 0, 40, 0, 40);
            same(0, () -> x.constraintsOf(0));
            x.addConstraint('<', 0, 1, 3);
            same("as the first", 1, () -> x.constraintsOf(0));
            same("as the second", 1, () -> x.constraintsOf(1));
            same(0, () -> x.constraintsOf(2));
            x.addConstraint('=', 2, 0, 3);
            x.addConstraint('#', 0, 1, 3);
            same(3, () -> x.constraintsOf(0));
            same(2, () -> x.constraintsOf(1));
            x.removeConstraint(1);
            same(2, () -> x.constraintsOf(0));
            same(0, () -> x.constraintsOf(2));
        });
        indexes(Scenes.FULL, LintelBrothers::constraintsOf, 4, 4, 3, 3, 3, 3);
        holds("Returns the number of constraints.", () -> {
            Scene ten = () -> {
                LintelBrothers x = Scenes.doors(0, 40, 0, 40, 0, 40);
                for (int gap = 1; gap <= 10; gap++) {
                    x.addConstraint('#', gap % 2, 1 - gap % 2, gap);
                }
                return x;
            };
            same(10, () -> ten.make().constraintsOf(0));
            same(10, () -> ten.make().constraintsOf(1));
            same(0, () -> ten.make().constraintsOf(2));
        });
        noSuchDoor(LintelBrothers::constraintsOf);
    }
}
