import java.util.NoSuchElementException;

/** Promises 24 to 31: passes. */
final class PassChapter extends Chapter {
    private static final Class<NoSuchElementException> NO_HEIGHT = NoSuchElementException.class;
    private static final Class<UnsupportedOperationException> REJECTED = UnsupportedOperationException.class;
    private static final String INDEX_OF_A_DOOR = "- `door`: the index of a door";
    private static final String NO_SUCH_DOOR = "Throws `IndexOutOfBoundsException` if there is no such door";

    /** A chain of three doors that takes two passes with changes. */
    private static final Scene CHAIN = () -> {
        LintelBrothers x = Scenes.doors(0, 40, 0, 40, 0, 40);
        x.addConstraint('<', 1, 2, 5);
        x.addConstraint('<', 0, 1, 5);
        return x;
    };
    /** Two constraints that leave no height, but take more than a pass to find it. */
    private static final Scene TORN_LATE = () -> {
        LintelBrothers x = Scenes.doors(0, 40, 0, 40, 20, 40);
        x.addConstraint('<', 0, 1, 1);
        x.addConstraint('<', 1, 0, 1);
        return x;
    };
    /** Two constraints that take twenty passes to leave no height. */
    private static final Scene SLOW = () -> {
        LintelBrothers x = Scenes.doors(0, 40, 0, 40);
        x.addConstraint('=', 0, 1, 0);
        x.addConstraint('<', 0, 1, 1);
        return x;
    };
    /** Six doors, each five heights above the one ahead of it, by constraints in the order against the passes. */
    private static final Scene LADDER = () -> {
        LintelBrothers x = Scenes.doors(3, 40, 0, 40, 0, 40, 0, 40, 0, 40, 0, 40);
        for (int door = 4; door >= 0; door--) {
            x.addConstraint(door % 2 == 0 ? '<' : '=', door, door + 1, 5);
        }
        return x;
    };

    PassChapter(Sentences sentences) {
        super(sentences);
    }

    @Override
    void tell() {
        promise(24);
        pass();
        promise(25);
        settle();
        promise(26);
        isSettled();
        promise(27);
        wouldChange();
        promise(28);
        lowestHeight();
        promise(29);
        lowestHeightByPaths();
        promise(30);
        counts();
    }

    private void pass() {
        holds("Makes a pass.", () -> {
            LintelBrothers x = CHAIN.make();
            x.pass();
            same("0-30 5-35 5-40", () -> Look.allBounds(x));
            x.pass();
            same("0-30 5-35 10-40", () -> Look.allBounds(x));
            same(2, x::passCount);
            LintelBrothers nothing = new LintelBrothers();
            nothing.pass();
            same(1, nothing::passCount);
        });
        holds("Returns the number of changes of bounds in the pass.", () -> {
            LintelBrothers x = CHAIN.make();
            same(4, x::pass);
            same(1, x::pass);
            same(0, x::pass);
            same(0, () -> new LintelBrothers().pass());
            LintelBrothers full = Scenes.doors(0, 40, 0, 40, 0, 40, 0, 40, 0, 40, 0, 40);
            for (int gap = 1; gap <= 10; gap++) {
                full.addConstraint('<', 4, 5, gap);
            }
            same("numbers of two digits", 20, full::pass);
            same("0-30 10-40", () -> Look.bounds(full, 4) + " " + Look.bounds(full, 5));
            same(0, () -> Scenes.doors(0, 40, 0, 40).pass());
        });
        holds("Throws `UnsupportedOperationException` if the call is rejected with the reason CONFLICT", () -> {
            rejected(LintelBrothers.CONFLICT, 1, Scenes.TORN, LintelBrothers::pass);
            same(4, () -> TORN_LATE.make().pass());
            Scene atTheEnd = TORN_LATE.then(x -> {
                for (int pass = 0; pass < 60; pass++) {
                    x.pass();
                }
                return 0;
            });
            rejected(LintelBrothers.CONFLICT, 0, atTheEnd, LintelBrothers::pass);
            Scene some = Scenes.SOME.then(x -> x.addConstraint('<', 0, 1, 1));
            rejected(LintelBrothers.CONFLICT, 3, some, LintelBrothers::pass);
        });
    }

    private void settle() {
        holds("Makes passes until a pass changes no bound.", () -> {
            LintelBrothers x = CHAIN.make();
            x.settle();
            same("0-30 5-35 10-40", () -> Look.allBounds(x));
            same(true, x::isSettled);
            same(3, x::passCount);
            same(5, x::changeCount);
            LintelBrothers ladder = LADDER.make();
            ladder.settle();
            same("3-15 8-20 13-25 18-30 23-35 28-40", () -> Look.allBounds(ladder));
            LintelBrothers apart = Scenes.doors(0, 40, 4, 8, 5, 40);
            apart.addConstraint('#', 1, 0, 20);
            apart.addConstraint('#', 2, 1, 3);
            apart.addConstraint('<', 2, 1, 3);
            apart.settle();
            same("28-40 8-8 5-5", () -> Look.allBounds(apart));
        });
        holds("Returns the number of passes, including the one that changes no bound.", () -> {
            same(3, () -> CHAIN.make().settle());
            same(2, () -> CHAIN.then(LintelBrothers::pass).make().settle());
            same(1, () -> CHAIN.then(LintelBrothers::settle).make().settle());
            same(6, () -> LADDER.make().settle());
            same(1, () -> new LintelBrothers().settle());
            same(1, () -> Scenes.doors(0, 40, 0, 40).settle());
            LintelBrothers x = CHAIN.make();
            x.pass();
            x.pass();
            x.pass();
            same("passes ahead of it do not count", 1, x::settle);
        });
        holds("Throws `UnsupportedOperationException` if the call is rejected with the reason CONFLICT", () -> {
            rejected(LintelBrothers.CONFLICT, 1, Scenes.TORN, LintelBrothers::settle);
            rejected(LintelBrothers.CONFLICT, 0, TORN_LATE, LintelBrothers::settle);
            rejected(LintelBrothers.CONFLICT, 1, SLOW, LintelBrothers::settle);
            rejected(LintelBrothers.CONFLICT, 3, Scenes.SOME.then(x -> x.addConstraint('<', 0, 1, 1)),
                    LintelBrothers::settle);
            LintelBrothers circle = Scenes.doors(0, 40, 0, 40);
            circle.addConstraint('<', 0, 1, 0);
            circle.addConstraint('<', 1, 0, 0);
            same("a circle without a gap", 1, circle::settle);
        });
    }

    private void isSettled() {
        holds("Tells whether a pass would change no bound now, and would not be rejected.", () -> {
            same(true, () -> new LintelBrothers().isSettled());
            same(true, () -> Scenes.doors(5, 9).isSettled());
            same(false, () -> CHAIN.make().isSettled());
            same(false, () -> CHAIN.then(LintelBrothers::pass).make().isSettled());
            same(true, () -> CHAIN.then(LintelBrothers::settle).make().isSettled());
            same("it would be rejected", false, () -> Scenes.TORN.make().isSettled());
            Scene fixed = () -> Scenes.doors(7, 7, 7, 7);
            same(false, () -> fixed.then(x -> x.addConstraint('#', 0, 1, 1)).make().isSettled());
            same(false, () -> fixed.then(x -> x.addConstraint('=', 0, 1, 1)).make().isSettled());
            same(true, () -> fixed.then(x -> x.addConstraint('=', 0, 1, 0)).make().isSettled());
        });
        holds("Returns whether the bounds are settled.", () -> {
            same("ahead of all passes", true, () -> Scenes.doors(5, 9, 20, 30).isSettled());
            LintelBrothers x = CHAIN.make();
            same(false, x::isSettled);
            same("it is no pass", "0-40 0-40 0-40", () -> Look.allBounds(x));
            same(0, x::passCount);
            same(0, x::changeCount);
            x.settle();
            same(true, x::isSettled);
            x.narrow(0, 1, 40);
            same(false, x::isSettled);
            x.reset();
            same(false, x::isSettled);
            leaves(Scenes.FULL, LintelBrothers::isSettled);
            leaves(Scenes.TORN, LintelBrothers::isSettled);
        });
    }

    private void wouldChange() {
        holds("Returns how many changes of bounds a pass would make now.", () -> {
            LintelBrothers x = CHAIN.make();
            for (int due : new int[] {4, 1, 0, 0}) {
                same(due, x::wouldChange);
                same(due, x::wouldChange);
                same(due, x::pass);
            }
            leaves(CHAIN, LintelBrothers::wouldChange);
            leaves(Scenes.FULL, LintelBrothers::wouldChange);
        });
        holds("Returns the number of changes.", () -> {
            same(0, () -> new LintelBrothers().wouldChange());
            same(0, () -> Scenes.doors(0, 40).wouldChange());
            same(4, () -> TORN_LATE.make().wouldChange());
            same(10, () -> LADDER.make().wouldChange());
        });
        holds("Throws `NoSuchElementException` if a pass would be rejected", () -> {
            refused(NO_HEIGHT, Scenes.TORN, LintelBrothers::wouldChange);
            refused(NO_HEIGHT, Scenes.SOME.then(x -> x.addConstraint('<', 0, 1, 1)), LintelBrothers::wouldChange);
            LintelBrothers x = TORN_LATE.make();
            for (int pass = 0; pass < 60; pass++) {
                Object told = Check.answer(x::wouldChange);
                same(told instanceof Integer ? told : "throws.UnsupportedOperationException", x::pass);
            }
            throwing(NO_HEIGHT, x::wouldChange);
        });
    }

    // ---- promises 28 and 29

    /** Both ways must give the heights, or no height if there is none in the list. */
    private void heights(Numbered way, Scene scene, int... due) {
        LintelBrothers x = scene.make();
        for (int door = 0; door < x.doorCount(); door++) {
            int its = door;
            same("door " + door, due.length == 0 ? "throws.NoSuchElementException" : due[door], () -> way.with(x, its));
        }
    }

    private static Scene with(Scene scene, String... constraints) {
        return scene.then(x -> {
            for (String constraint : constraints) {
                Scenes.run(x, constraint);
            }
            return 0;
        });
    }

    /** Heights that are the same for both ways. */
    private void commonHeights(Numbered way) {
        heights(way, LADDER, 3, 8, 13, 18, 23, 28);
        heights(way, CHAIN, 0, 5, 10);
        heights(way, LADDER.then(LintelBrothers::settle), 3, 8, 13, 18, 23, 28);
        heights(way, () -> Scenes.doors(0, 0, 40, 40, 9, 10), 0, 40, 9);
        heights(way, with(() -> Scenes.narrowed(5, 30, 0, 40, 0, 40, 20, 40), "1<2+4", "0<1+3", "1=3+2"),
                5, 18, 22, 20);
        heights(way, with(() -> Scenes.doors(0, 40, 0, 40, 0, 40, 9, 40), "0=1+2", "1=2+2", "2=3+2"), 3, 5, 7, 9);
        heights(way, with(() -> Scenes.doors(10, 10, 8, 12, 0, 40), "0#1+3", "1<2+20"), 10, 8, 28);
        heights(way, with(() -> Scenes.doors(3, 40, 5, 40), "0<1+0", "1<0+0"), 5, 5);
        heights(way, with(() -> Scenes.doors(0, 40, 0, 40, 0, 40), "0<1+2", "0<1+9", "0<2+3", "2<1+4"), 0, 9, 3);
        heights(way, with(() -> Scenes.doors(0, 40, 0, 40, 0, 40), "0<1+2", "0<1+5", "0<2+3", "2<1+4"), 0, 7, 3);
    }

    private void tooGreatHeights(Numbered way) {
        refusesAll(NO_HEIGHT, TORN_LATE, new int[] {0, 1, 2}, way);
        refusesAll(NO_HEIGHT, Scenes.TORN, new int[] {0, 1}, way);
        Scene just = with(() -> Scenes.doors(0, 40, 5, 20, 7, 7), "0<1+20");
        heights(way, just, 0, 20, 7);
        heights(way, just.then(x -> x.narrow(0, 1, 40)));
        heights(way, just.then(x -> x.narrow(1, 5, 19)));
        Scene exact = with(() -> Scenes.doors(0, 10, 5, 12, 7, 7), "0=1+2");
        heights(way, exact, 3, 5, 7);
        heights(way, exact.then(x -> x.setFrame(0, 0, 2)));
        heights(way, exact.then(x -> x.setFrame(0, 0, 3)), 3, 5, 7);
        heights(way, with(() -> Scenes.doors(0, 40, 0, 40, 0, 40), "0=1+2", "0<1+3"));
        heights(way, with(() -> Scenes.doors(0, 40, 0, 40, 0, 40), "0<1+1", "1<2+1", "2<0+1"));
        heights(way, with(() -> Scenes.doors(0, 40, 0, 40, 0, 40), "0<1+1", "1<2+0", "2<0+0"));
        heights(way, with(() -> Scenes.doors(0, 40, 0, 40, 0, 40), "0<1+0", "1<2+0", "2<0+0"), 0, 0, 0);
    }

    private void lowestHeight() {
        Numbered way = LintelBrothers::lowestHeight;
        holds("Returns the low bound that a door would have after settle if there were only the constraints of the "
                + "kinds lower and exact, found by passes.", () -> {
            commonHeights(way);
            LintelBrothers x = LADDER.make();
            same(28, () -> x.lowestHeight(5));
            x.settle();
            same(28, () -> x.lowOf(5));
            leaves(LADDER, y -> y.lowestHeight(5));
            leaves(Scenes.FULL, y -> y.lowestHeight(5));
        });
        holds(INDEX_OF_A_DOOR, () -> heights(way, LADDER.then(x -> x.narrow(0, 7, 8)), 7, 12, 17, 22, 27, 32));
        holds("Returns the height.", () -> {
            for (int height : new int[] {0, 1, 9, 10, 39, 40}) {
                same(height, () -> Scenes.doors(height, 40).lowestHeight(0));
            }
        });
        holds(NO_SUCH_DOOR, () -> {
            refusesOtherDoors(way);
            refusesAll(IndexOutOfBoundsException.class, Scenes.TORN, outside(0, 1), way);
        });
        holds("Throws `NoSuchElementException` if settle would be rejected then", () -> {
            tooGreatHeights(way);
            Scene onlyApart = with(() -> Scenes.doors(7, 7, 7, 7), "0#1+1");
            throwing(REJECTED, () -> onlyApart.make().settle());
            heights(way, onlyApart, 7, 7);
        });
    }

    private void lowestHeightByPaths() {
        Numbered way = LintelBrothers::lowestHeightByPaths;
        holds("Returns the same height in a second way: by the longest paths from the low bounds of all doors along "
                + "constraints.", () -> {
            commonHeights(way);
            leaves(LADDER, y -> y.lowestHeightByPaths(5));
            leaves(Scenes.FULL, y -> y.lowestHeightByPaths(5));
        });
        holds(INDEX_OF_A_DOOR, () -> heights(way, LADDER.then(x -> x.narrow(0, 7, 8)), 7, 12, 17, 22, 27, 32));
        holds("Returns the same height.", () -> {
            for (int number = 0; number < 400; number++) {
                LintelBrothers x = new Riddle(number).object();
                for (int door = 0; door < 3; door++) {
                    int its = door;
                    same("riddle " + number, Check.answer(() -> x.lowestHeight(its)), () -> x.lowestHeightByPaths(its));
                }
            }
            for (int height : new int[] {0, 1, 9, 10, 39, 40}) {
                same(height, () -> Scenes.doors(height, 40).lowestHeightByPaths(0));
            }
        });
        holds(NO_SUCH_DOOR, () -> {
            refusesOtherDoors(way);
            refusesAll(IndexOutOfBoundsException.class, Scenes.TORN, outside(0, 1), way);
        });
        holds("Throws `NoSuchElementException` if a path gives a height that is greater than the high bound of its "
                + "door",
                () -> {
                    tooGreatHeights(way);
                    heights(way, with(() -> Scenes.doors(7, 7, 7, 7), "0#1+1"), 7, 7);
                    heights(way, with(LADDER, "0#5+20").then(x -> x.narrow(5, 0, 27)));
                    heights(way, with(LADDER, "0#5+20").then(x -> x.narrow(5, 0, 28)), 3, 8, 13, 18, 23, 28);
                });
    }

    // ---- promises 30 and 31

    private void counts() {
        Scene twoSettles = CHAIN.then(x -> {
            x.pass();
            x.reset();
            x.settle();
            x.settle();
            return x.pass();
        });
        holds("Returns the number of passes so far, by pass and by settle.", () -> {
            same(0, () -> new LintelBrothers().passCount());
            same(1, () -> CHAIN.then(LintelBrothers::pass).make().passCount());
            same(3, () -> CHAIN.then(LintelBrothers::settle).make().passCount());
            same(6, () -> twoSettles.make().passCount());
            same(2, () -> CHAIN.then(x -> Scenes.run(x, "pass;pass")).make().passCount());
            same(4, () -> CHAIN.then(x -> Scenes.run(x, "pass;reset;settle")).make().passCount());
        });
        holds("Returns the number of passes.", () -> {
            LintelBrothers x = SLOW.make();
            Check.answer(x::settle);
            same("a rejected settle makes none", 0, x::passCount);
            for (int passes = 1; passes <= 15; passes++) {
                x.pass();
                same(passes, x::passCount);
            }
            x.undo();
            same(14, x::passCount);
            Scene asked = CHAIN.then(y -> "" + y.isSettled() + y.wouldChange() + y.lowestHeight(0)
                    + y.lowestHeightByPaths(0) + y.hasPeace() + y.isConsistent());
            same("questions make none", 0, () -> asked.make().passCount());
            same(0, () -> Scenes.TORN.then(LintelBrothers::pass).make().passCount());
        });
        promise(31);
        holds("Returns the number of changes of bounds in all passes so far.", () -> {
            same(0, () -> new LintelBrothers().changeCount());
            same(4, () -> CHAIN.then(LintelBrothers::pass).make().changeCount());
            same(5, () -> CHAIN.then(LintelBrothers::settle).make().changeCount());
            same(9, () -> twoSettles.make().changeCount());
            same(9, () -> CHAIN.then(x -> Scenes.run(x, "pass;reset;settle")).make().changeCount());
            same("only passes count", 0, () -> Scenes.narrowed(3, 4, 5, 6).changeCount());
        });
        holds("Returns the number of changes.", () -> {
            LintelBrothers x = SLOW.make();
            Check.answer(x::settle);
            same("a rejected settle makes none", 0, x::changeCount);
            for (int passes = 1; passes <= 15; passes++) {
                x.pass();
                same(4 * passes - 2, x::changeCount);
            }
            x.undo();
            same(54, x::changeCount);
            same(0, () -> Scenes.TORN.then(LintelBrothers::pass).make().changeCount());
        });
    }
}
