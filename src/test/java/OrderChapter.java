/** Promises 36 to 43: orders, shares and consistency. */
final class OrderChapter extends Chapter {
    private static final String POSITION = "- `position`: the position, from 0";
    private static final String NO_POSITION = "Throws `NoSuchElementException` if there is no such position";
    private static final String NO_DOORS = "Throws `ArithmeticException` if there are no doors";

    /** Six doors, of which four have the same width. */
    private static final Scene WIDTHS = () -> Scenes.doors(0, 10, 20, 30, 5, 5, 30, 40, 0, 40, 3, 13);

    OrderChapter(Sentences sentences) {
        super(sentences);
    }

    @Override
    void tell() {
        promise(36);
        doorByWidth();
        promise(37);
        constraintByGap();
        promise(38);
        fixedCount();
        totals();
        promise(41);
        meanWidth();
        promise(42);
        fixedShare();
        promise(43);
        isConsistent();
    }

    private static String doorsByWidth(LintelBrothers x) {
        StringBuilder order = new StringBuilder();
        for (int position = 0; position < x.doorCount(); position++) {
            order.append(position > 0 ? " " : "").append(x.doorByWidth(position));
        }
        return order.toString();
    }

    private static String constraintsByGap(LintelBrothers x) {
        StringBuilder order = new StringBuilder();
        for (int position = 0; position < x.constraintCount(); position++) {
            order.append(position > 0 ? " " : "").append(x.constraintByGap(position));
        }
        return order.toString();
    }

    private void doorByWidth() {
        holds("Returns a door in the order of widths, the narrowest first.", () -> {
            LintelBrothers x = Scenes.doors(0, 40, 0, 0, 10, 30, 5, 6, 0, 39, 40, 40);
            same("1 5 3 2 4 0", () -> doorsByWidth(x));
            x.narrow(0, 7, 9);
            same("bounds count, not frames", "1 5 3 0 2 4", () -> doorsByWidth(x));
            x.addConstraint('<', 4, 2, 0);
            x.addConstraint('<', 4, 0, 0);
            same("widths come ahead of constraints", "1 5 3 0 2 4", () -> doorsByWidth(x));
            leaves(Scenes.FULL, y -> y.doorByWidth(3));
        });
        holds("Of doors with the same width, the one with more constraints comes first, then the one with the lower "
                + "index.", () -> {
            LintelBrothers x = WIDTHS.make();
            same("2 0 1 3 5 4", () -> doorsByWidth(x));
            x.addConstraint('<', 4, 5, 0);
            same("as the second door", "2 5 0 1 3 4", () -> doorsByWidth(x));
            x.addConstraint('#', 3, 4, 1);
            same("one each, by index", "2 3 5 0 1 4", () -> doorsByWidth(x));
            x.addConstraint('=', 1, 4, 0);
            x.addConstraint('=', 1, 4, 1);
            same("two ahead of one", "2 1 3 5 0 4", () -> doorsByWidth(x));
            x.removeConstraint(2);
            x.removeConstraint(3);
            same("2 3 5 0 1 4", () -> doorsByWidth(x));
        });
        holds(POSITION, () -> {
            int[] due = {2, 0, 1, 3, 5, 4};
            for (int position = 0; position < 6; position++) {
                int at = position;
                same(due[at], () -> WIDTHS.make().doorByWidth(at));
            }
        });
        holds("Returns the index of the door.", () -> {
            same(0, () -> Scenes.doors(0, 40).doorByWidth(0));
            for (int door = 0; door < 6; door++) {
                LintelBrothers x = Scenes.doors(0, 40, 0, 40, 0, 40, 0, 40, 0, 40, 0, 40);
                x.narrow(door, 1, 40);
                same(door, () -> x.doorByWidth(0));
                same(door == 0 ? 1 : 0, () -> x.doorByWidth(1));
                same(door == 5 ? 4 : 5, () -> x.doorByWidth(5));
            }
        });
        holds(NO_POSITION, () -> refusesOtherPositions(3, 6, LintelBrothers::doorByWidth));
    }

    private void constraintByGap() {
        Scene gaps = () -> {
            LintelBrothers x = Scenes.doors(0, 40, 0, 40);
            for (String constraint : new String[] {"0<1+3", "0=1+7", "1<0+3", "0<1+0", "0<1+20", "0#1+3", "0=1+19",
                "0#1+20", "1=0+1", "1<0+10"}) {
                Scenes.run(x, constraint);
            }
            return x;
        };
        holds("Returns a constraint in the order of gaps, the greatest gap first.", () -> {
            LintelBrothers x = Scenes.doors(0, 40, 0, 40);
            for (int gap : new int[] {9, 20, 0, 10, 1}) {
                x.addConstraint('<', 0, 1, gap);
            }
            same("1 3 0 4 2", () -> constraintsByGap(x));
            x.addConstraint('#', 0, 1, 19);
            same("1 5 3 0 4 2", () -> constraintsByGap(x));
            x.removeConstraint(1);
            same("5 3 0 4 2", () -> constraintsByGap(x));
            leaves(Scenes.FULL, y -> y.constraintByGap(3));
        });
        holds("Of constraints with the same gap, the one with the lower id comes first.", () -> {
            same("4 7 6 9 1 0 2 5 8 3", () -> constraintsByGap(gaps.make()));
            same("7 8 1 2 3 4 6 9 10 11", () -> constraintsByGap(Scenes.FULL.make()));
            LintelBrothers x = Scenes.doors(0, 40, 0, 40, 0, 40);
            x.addConstraint('<', 0, 1, 5);
            x.addConstraint('<', 1, 2, 5);
            x.removeConstraint(0);
            x.addConstraint('<', 0, 1, 5);
            same("1 2", () -> constraintsByGap(x));
        });
        holds(POSITION, () -> {
            int[] due = {4, 7, 6, 9, 1, 0, 2, 5, 8, 3};
            for (int position = 0; position < 10; position++) {
                int at = position;
                same(due[at], () -> gaps.make().constraintByGap(at));
            }
        });
        holds("Returns the id of the constraint.", () -> {
            same(2, () -> Scenes.SOME.make().constraintByGap(0));
            same(0, () -> Scenes.SOME.make().constraintByGap(1));
            same("an id of two digits", 11, () -> Scenes.FULL.make().constraintByGap(9));
        });
        holds(NO_POSITION, () -> refusesOtherPositions(2, 10, LintelBrothers::constraintByGap));
    }

    private void fixedCount() {
        holds("Returns the number of fixed doors.", () -> {
            LintelBrothers x = Scenes.doors(7, 7, 0, 1, 40, 40);
            same(2, x::fixedCount);
            x.narrow(1, 1, 1);
            same(3, x::fixedCount);
            x.reset();
            same(2, x::fixedCount);
            x.addConstraint('=', 1, 0, 7);
            x.pass();
            same("by a pass", 3, x::fixedCount);
        });
        holds("Returns the number of doors.", () -> {
            same("no doors", 0, () -> new LintelBrothers().fixedCount());
            same(0, () -> Scenes.doors(0, 40, 39, 40).fixedCount());
            same("six doors", 6, () -> Scenes.doors(0, 0, 1, 1, 9, 9, 10, 10, 39, 39, 40, 40).fixedCount());
            same(1, () -> Scenes.doors(0, 1, 0, 1, 0, 1, 0, 1, 0, 1, 3, 3).fixedCount());
        });
    }

    private void totals() {
        promise(39);
        holds("Returns the sum of the widths of all doors.", () -> {
            LintelBrothers x = Scenes.doors(5, 30, 0, 20, 7, 7);
            same(48, x::totalWidth);
            x.narrow(0, 9, 10);
            same("bounds count, not frames", 24, x::totalWidth);
            x.reset();
            same(48, x::totalWidth);
        });
        holds("Returns the sum.", () -> {
            same("no doors", 0, () -> new LintelBrothers().totalWidth());
            same(1, () -> Scenes.doors(40, 40).totalWidth());
            same(41, () -> Scenes.doors(0, 40).totalWidth());
            same("six doors", 246, () -> Scenes.doors(0, 40, 0, 40, 0, 40, 0, 40, 0, 40, 0, 40).totalWidth());
            same(6, () -> Scenes.doors(0, 0, 1, 1, 9, 9, 10, 10, 39, 39, 40, 40).totalWidth());
        });
        promise(40);
        holds("Returns the sum of the widths of the frames of all doors.", () -> {
            LintelBrothers x = Scenes.doors(5, 30, 0, 20, 7, 7);
            same(48, x::totalFrameWidth);
            x.narrow(0, 9, 10);
            same("frames count, not bounds", 48, x::totalFrameWidth);
            x.setFrame(0, 9, 10);
            same(24, x::totalFrameWidth);
        });
        holds("Returns the sum.", () -> {
            same("no doors", 0, () -> new LintelBrothers().totalFrameWidth());
            same(1, () -> Scenes.doors(40, 40).totalFrameWidth());
            same(41, () -> Scenes.doors(0, 40).totalFrameWidth());
            same("six doors", 246, () -> Scenes.doors(0, 40, 0, 40, 0, 40, 0, 40, 0, 40, 0, 40).totalFrameWidth());
            same(6, () -> Scenes.doors(0, 0, 1, 1, 9, 9, 10, 10, 39, 39, 40, 40).totalFrameWidth());
        });
    }

    private void meanWidth() {
        holds("Returns the mean width of all doors: the sum of the widths divided by the number of doors, both "
                + "converted to double.", () -> {
            same(5.0 / 3.0, () -> Scenes.doors(5, 5, 0, 2, 0, 0).meanWidth());
            same(2.5, () -> Scenes.doors(0, 0, 0, 3).meanWidth());
            same(31.0 / 6.0, () -> Scenes.doors(0, 0, 0, 0, 0, 0, 0, 0, 0, 5, 0, 20).meanWidth());
            same(4.0 / 3.0, () -> Scenes.narrowed(5, 5, 1, 2, 0, 0).meanWidth());
        });
        holds("Returns the mean width.", () -> {
            same(1.0, () -> Scenes.doors(40, 40).meanWidth());
            same(41.0, () -> Scenes.doors(0, 40).meanWidth());
            same(41.0, () -> Scenes.doors(0, 40, 0, 40, 0, 40, 0, 40, 0, 40, 0, 40).meanWidth());
        });
        holds(NO_DOORS, () -> {
            refused(ArithmeticException.class, Scenes.NOTHING, LintelBrothers::meanWidth);
            refused(ArithmeticException.class, Scenes.NOTHING.then(x -> {
                x.addDoor(0, 40);
                return x.undo();
            }), LintelBrothers::meanWidth);
        });
    }

    private void fixedShare() {
        holds("Returns the share of fixed doors among all doors, both numbers converted to float.", () -> {
            same(2.0f / 3.0f, () -> Scenes.doors(5, 5, 0, 2, 0, 0).fixedShare());
            same(1.0f / 6.0f, () -> Scenes.doors(0, 1, 0, 1, 0, 1, 0, 1, 0, 1, 7, 7).fixedShare());
            same(1.0f / 3.0f, () -> Scenes.narrowed(5, 5, 1, 2, 0, 1).fixedShare());
            same(0.2f, () -> Scenes.doors(0, 1, 0, 1, 0, 1, 0, 1, 0, 0).fixedShare());
        });
        holds("Returns the share.", () -> {
            same(0.0f, () -> Scenes.doors(0, 40).fixedShare());
            same(1.0f, () -> Scenes.doors(40, 40).fixedShare());
            same(0.5f, () -> Scenes.doors(40, 40, 0, 1).fixedShare());
            same(1.0f, () -> Scenes.doors(0, 0, 1, 1, 9, 9, 10, 10, 39, 39, 40, 40).fixedShare());
        });
        holds(NO_DOORS, () -> {
            refused(ArithmeticException.class, Scenes.NOTHING, LintelBrothers::fixedShare);
            refused(ArithmeticException.class, Scenes.NOTHING.then(x -> {
                x.addDoor(7, 7);
                return x.undo();
            }), LintelBrothers::fixedShare);
        });
    }

    /** No run of calls leads to data that are not as they should be, so only the answer true can be seen. */
    private void isConsistent() {
        holds("Checks the data: for all doors, both ways to find the lowest height agree or both throw an exception, "
                + "the bounds are within the frame, and the low bound is not greater than the high bound.", () -> {
            for (int number = 0; number < 400; number++) {
                LintelBrothers x = new Riddle(number).object();
                same("riddle " + number, true, x::isConsistent);
                Check.answer(x::pass);
                same("riddle " + number, true, x::isConsistent);
            }
            same("both ways throw an exception", true, () -> Scenes.TORN.make().isConsistent());
            same(true, () -> Scenes.FULL.make().isConsistent());
            same(true, () -> Scenes.SOME.make().isConsistent());
            LintelBrothers onlyApart = Scenes.doors(7, 7, 7, 7);
            onlyApart.addConstraint('#', 0, 1, 1);
            same("constraints of the kind apart do not count", true, onlyApart::isConsistent);
        });
        holds("Returns whether all this is true.", () -> {
            same("no doors", true, () -> new LintelBrothers().isConsistent());
            same(true, () -> Scenes.doors(0, 40).isConsistent());
            same(true, () -> Scenes.narrowed(40, 40).isConsistent());
            leaves(Scenes.FULL, LintelBrothers::isConsistent);
            leaves(Scenes.TORN, LintelBrothers::isConsistent);
        });
    }
}
