import java.util.ArrayList;
import java.util.List;

/** Terms: doors, constraints, passes and peace. */
final class TermChapter extends Chapter {
    TermChapter(Sentences sentences) {
        super(sentences);
    }

    @Override
    void tell() {
        under("Terms");
        holds("Bounds never grow in a pass.", this::boundsNeverGrow);
        doors();
        constraints();
        passes();
        peace();
    }

    /** All ranges from 0 to 4 for two doors, as low and high bounds by turns. */
    private static List<int[]> smallBounds() {
        List<int[]> all = new ArrayList<>();
        for (int number = 0; number < 5 * 5 * 5 * 5; number++) {
            int[] bounds = {number % 5, number / 5 % 5, number / 25 % 5, number / 125};
            if (bounds[0] <= bounds[1] && bounds[2] <= bounds[3]) {
                all.add(bounds);
            }
        }
        return all;
    }

    private void boundsNeverGrow() {
        for (int[] bounds : smallBounds()) {
            for (char kind : KINDS) {
                LintelBrothers x = Scenes.narrowed(bounds);
                x.addConstraint(kind, 0, 1, 2);
                Check.answer(x::pass);
                same(true, () -> x.lowOf(0) >= bounds[0] && x.highOf(0) <= bounds[1]);
                same(true, () -> x.lowOf(1) >= bounds[2] && x.highOf(1) <= bounds[3]);
                Check.answer(x::settle);
                same(true, () -> x.lowOf(0) >= bounds[0] && x.highOf(0) <= bounds[1]);
                same(true, () -> x.lowOf(1) >= bounds[2] && x.highOf(1) <= bounds[3]);
            }
        }
    }

    // ---- doors

    private void doors() {
        holds("There are at most 6 doors, numbered from 0 in the order in which they are added; they are never "
                + "removed.", this::atMostSixDoors);
        holds("A door has a frame, which is a range of heights from a lowest one to a greatest one, and two bounds, a "
                + "low one and a high one.", () -> {
            LintelBrothers x = Scenes.doors(3, 37);
            x.narrow(0, 9, 30);
            same(3, () -> x.frameLow(0));
            same(37, () -> x.frameHigh(0));
            same(9, () -> x.lowOf(0));
            same(30, () -> x.highOf(0));
        });
        holds("The heights within its bounds are all whole numbers from the low bound to the high bound, both "
                + "included.", this::heightsWithinBounds);
        holds("The bounds are always within the frame.", this::boundsWithinFrame);
        holds("To reset all bounds means that the bounds of each door become the lowest and the greatest height of its "
                + "frame.", this::resetOfAllBounds);
    }

    private void atMostSixDoors() {
        LintelBrothers x = new LintelBrothers();
        for (int door = 0; door < 6; door++) {
            int added = door;
            same(added, () -> x.addDoor(added, 10 + added));
            same(added + 1, x::doorCount);
        }
        throwing(UnsupportedOperationException.class, () -> x.addDoor(0, 40));
        same(6, x::doorCount);
        same("0-10 1-11 2-12 3-13 4-14 5-15", () -> Look.allBounds(x));
        x.addConstraint('<', 0, 1, 0);
        x.removeConstraint(0);
        x.reset();
        x.settle();
        x.setFrame(5, 0, 0);
        Scenes.run(x, "frame 4 1-1;0<1+1;drop 1;pass");
        same(6, x::doorCount);
        same("0-10 1-11 2-12 3-13 1-1 0-0", () -> Look.allBounds(x));
        throwing(UnsupportedOperationException.class, () -> x.addDoor(0, 40));
        x.undo();
        x.undo();
        same(6, x::doorCount);
    }

    private void heightsWithinBounds() {
        LintelBrothers x = Scenes.narrowed(7, 10, 40, 40, 0, 0);
        same(4, () -> x.widthOf(0));
        for (int height = 0; height <= 40; height++) {
            int one = height;
            boolean isWithin = height >= 7 && height <= 10;
            same(isWithin, () -> x.arePossible(0, one, 0, one));
            same(isWithin, () -> Check.answer(() -> Scenes.narrowed(7, 10).narrow(0, one, one)) instanceof Integer);
        }
        same(1, () -> x.widthOf(1));
        same(true, () -> x.arePossible(1, 40, 2, 0));
        same(false, () -> x.arePossible(1, 39, 2, 0));
        same(false, () -> x.arePossible(1, 40, 2, 1));
    }

    private void boundsWithinFrame() {
        LintelBrothers x = Scenes.doors(5, 20, 10, 30);
        Scene.Deed[] changes = {y -> y.narrow(0, 0, 40), y -> y.narrow(0, 4, 21), y -> y.narrow(0, 8, 18),
            y -> y.setFrame(0, 12, 14), y -> y.setFrame(0, 6, 20), y -> y.addConstraint('=', 0, 1, 0), y -> y.pass(),
            y -> y.setFrame(1, 0, 7), y -> y.settle(), y -> y.removeConstraint(0), y -> y.addConstraint('#', 0, 1, 20),
            y -> y.setFrame(1, 9, 9), y -> y.pass(), y -> y.reset(), y -> y.undo(), y -> y.undo()};
        for (Scene.Deed change : changes) {
            Check.answer(() -> change.on(x));
            for (int door = 0; door < 2; door++) {
                int at = door;
                same(true, () -> x.frameLow(at) <= x.lowOf(at) && x.lowOf(at) <= x.highOf(at)
                        && x.highOf(at) <= x.frameHigh(at));
            }
        }
    }

    private void resetOfAllBounds() {
        String frames = "0-40 1-39 2-38 3-37 4-36 5-35";
        Scene scene = () -> {
            LintelBrothers x = Scenes.doors(0, 40, 1, 39, 2, 38, 3, 37, 4, 36, 5, 35);
            for (int door = 0; door < 6; door++) {
                x.narrow(door, 10 + door, 20 + door);
            }
            x.addConstraint('<', 0, 1, 5);
            return x;
        };
        same("10-20 11-21 12-22 13-23 14-24 15-25", () -> Look.allBounds(scene.make()));
        same(frames, () -> Look.allBounds(scene.then(x -> x.reset()).make()));
        same(frames, () -> Look.allBounds(scene.then(x -> x.setFrame(3, 3, 37)).make()));
        same(frames, () -> Look.allBounds(scene.then(x -> x.removeConstraint(0)).make()));
        same(frames, () -> Look.allBounds(scene.then(x -> Scenes.run(x, "reset")).make()));
        same(frames, () -> Look.allBounds(scene.then(x -> Scenes.run(x, "frame 0 0-40")).make()));
        same(frames, () -> Look.allBounds(scene.then(x -> Scenes.run(x, "drop 0")).make()));
    }

    // ---- constraints

    private void constraints() {
        holds("There are at most 10 constraints at a time.", this::atMostTenConstraints);
        holds("The first constraint that is added gets the id 0, and every further one gets the next greater id; ids "
                + "are not used again.", this::ids);
        holds("A constraint has a kind, a first and a second door, and a gap.", () -> {
            LintelBrothers x = Scenes.SOME.make();
            same("0 2", () -> Look.ids(x));
            same('#', () -> x.kindOf(0));
            same(0, () -> x.firstOf(0));
            same(2, () -> x.secondOf(0));
            same(4, () -> x.gapOf(0));
            same('=', () -> x.kindOf(2));
            same(2, () -> x.firstOf(2));
            same(1, () -> x.secondOf(2));
            same(5, () -> x.gapOf(2));
        });
        holds("The kind lower is satisfied if the height of the first door plus the gap is at most the height of the "
                + "second door.", () -> satisfied('<'));
        holds("The kind exact is satisfied if the height of the first door plus the gap is the height of the second "
                + "door.", () -> satisfied('='));
        holds("The kind apart is satisfied if the heights of both doors differ by at least the gap.",
                () -> satisfied('#'));
    }

    private void atMostTenConstraints() {
        LintelBrothers x = Scenes.doors(0, 40, 0, 40);
        for (int gap = 1; gap <= 10; gap++) {
            int its = gap;
            same(gap - 1, () -> x.addConstraint('<', 0, 1, its));
            same(gap, x::constraintCount);
        }
        throwing(UnsupportedOperationException.class, () -> x.addConstraint('<', 0, 1, 11));
        same(10, x::constraintCount);
        x.removeConstraint(4);
        same(9, x::constraintCount);
        same(10, () -> x.addConstraint('<', 0, 1, 11));
        throwing(UnsupportedOperationException.class, () -> x.addConstraint('<', 0, 1, 12));
        same("0 1 2 3 5 6 7 8 9 10", () -> Look.ids(x));
        same(11, () -> x.gapOf(10));
        same(10, () -> x.gapOf(9));
        same(1, () -> x.gapOf(0));
    }

    private void ids() {
        LintelBrothers x = Scenes.doors(0, 40, 0, 40);
        same(0, () -> x.addConstraint('<', 0, 1, 3));
        same(1, () -> x.addConstraint('<', 0, 1, 4));
        x.removeConstraint(1);
        same(2, () -> x.addConstraint('<', 0, 1, 4));
        x.removeConstraint(0);
        same(3, () -> x.addConstraint('<', 0, 1, 3));
        x.removeConstraint(2);
        x.removeConstraint(3);
        same(4, () -> x.addConstraint('#', 0, 1, 4));
        throwing(UnsupportedOperationException.class, () -> x.addConstraint('#', 0, 1, 4));
        throwing(IllegalArgumentException.class, () -> x.addConstraint('#', 0, 1, 0));
        same(5, () -> x.addConstraint('#', 1, 0, 4));
        for (int id = 6; id <= 240; id++) {
            int next = id;
            x.removeConstraint(id - 1);
            same(next, () -> x.addConstraint('<', 1, 0, 4));
        }
        same("4 240", () -> Look.ids(x));
    }

    /** Doors of one height each, at the ends of what a gap allows and all around them. */
    private void satisfied(char kind) {
        for (int gap : new int[] {0, 1, 2, 5, 19, 20}) {
            for (int first : new int[] {0, 6, 20, 40}) {
                for (int second : new int[] {first - gap - 1, first - gap, first - gap + 1, first - 1, first,
                    first + 1, first + gap - 1, first + gap, first + gap + 1, 0, 40}) {
                    if (second >= 0 && second <= 40 && (kind != '#' || gap > 0)) {
                        satisfied(kind, first, second, gap);
                    }
                }
            }
        }
    }

    private void satisfied(char kind, int first, int second, int gap) {
        boolean due = isSatisfied(kind, first, second, gap);
        String what = first + " " + kind + " " + second + " gap " + gap;
        LintelBrothers x = Scenes.doors(first, first, second, second);
        x.addConstraint(kind, 0, 1, gap);
        same(what, due, () -> x.isSafe(0));
        same(what, !due, () -> x.isBroken(0));
        same(what, due, x::hasPeace);
        same(what, due, () -> Check.answer(x::pass) instanceof Integer);
        LintelBrothers wide = Scenes.doors(0, 40, 0, 40);
        wide.addConstraint(kind, 0, 1, gap);
        same(what, due, () -> wide.arePossible(0, first, 1, second));
    }

    private static boolean isSatisfied(char kind, int first, int second, int gap) {
        if (kind == '#') {
            return second - first >= gap || first - second >= gap;
        }
        return kind == '<' ? first + gap <= second : first + gap == second;
    }

    // ---- passes

    private void passes() {
        holds("In a pass, each constraint is taken once, in the order of ids, and narrows the bounds of its doors as "
                + "they are at that moment, step by step; each bound that becomes different in a step is one change.",
                this::orderOfPass);
        holds("A constraint of the kind lower has two steps: ..", this::stepsOfLower);
        holds("A constraint of the kind exact first has the two steps of the kind lower, and then two more: ..",
                this::stepsOfExact);
        holds("A constraint of the kind apart has four steps: ..", this::stepsOfApart);
        holds("If after the steps of a constraint the low bound of one of its doors is greater than its high bound, "
                + "this is a conflict, and the call is rejected.", this::conflict);
    }

    private void orderOfPass() {
        LintelBrothers down = Scenes.doors(1, 40, 0, 40, 0, 40);
        down.addConstraint('<', 1, 2, 1);
        down.addConstraint('<', 0, 1, 1);
        same("each is taken once", 4, down::pass);
        same("1-38 2-39 1-40", () -> Look.allBounds(down));
        LintelBrothers up = Scenes.doors(1, 40, 0, 40, 0, 40);
        up.addConstraint('<', 0, 1, 1);
        up.addConstraint('<', 1, 2, 1);
        same("bounds as they are at that moment", 4, up::pass);
        same("1-39 2-39 3-40", () -> Look.allBounds(up));
        LintelBrothers later = Scenes.doors(1, 40, 0, 40, 0, 40);
        later.addConstraint('<', 0, 1, 1);
        later.addConstraint('<', 1, 2, 1);
        later.removeConstraint(0);
        later.addConstraint('<', 0, 1, 1);
        same("ids, not doors or places", 4, later::pass);
        same("1-38 2-39 1-40", () -> Look.allBounds(later));
        LintelBrothers twice = Scenes.doors(0, 40, 0, 40);
        twice.addConstraint('<', 0, 1, 1);
        twice.addConstraint('<', 0, 1, 2);
        same("a bound that becomes different twice", 4, twice::pass);
        same(4, twice::changeCount);
        same("0-38 2-40", () -> Look.allBounds(twice));
        LintelBrothers kinds = Scenes.doors(10, 10, 8, 13, 12, 40);
        kinds.addConstraint('#', 0, 1, 3);
        kinds.addConstraint('#', 2, 1, 4);
        kinds.addConstraint('=', 1, 2, 5);
        same("a door that becomes fixed on the way", 4, kinds::pass);
        same("10-10 13-13 18-18", () -> Look.allBounds(kinds));
    }

    /** A pass over one constraint from door 0 to door 1; what is due is the answer and the bounds after it. */
    private void steps(String due, char kind, int gap, int... bounds) {
        for (LintelBrothers x : new LintelBrothers[] {Scenes.doors(bounds), Scenes.narrowed(bounds)}) {
            x.addConstraint(kind, 0, 1, gap);
            same(due, () -> x.pass() + ": " + Look.allBounds(x));
        }
    }

    private void stepsOfLower() {
        steps("2: 5-17 8-20", '<', 3, 5, 30, 0, 20);
        steps("1: 5-17 8-20", '<', 3, 5, 17, 7, 20);
        steps("1: 5-17 8-20", '<', 3, 5, 18, 8, 20);
        steps("0: 5-17 8-20", '<', 3, 5, 17, 8, 20);
        steps("0: 5-16 9-20", '<', 3, 5, 16, 9, 20);
        steps("0: 0-5 30-40", '<', 3, 0, 5, 30, 40);
        steps("2: 5-7 5-7", '<', 0, 5, 9, 3, 7);
        steps("2: 0-20 20-40", '<', 20, 0, 40, 0, 40);
    }

    private void stepsOfExact() {
        steps("2: 5-17 8-20", '=', 3, 5, 30, 0, 20);
        steps("1: 7-9 10-12", '=', 3, 7, 9, 9, 12);
        steps("1: 7-9 10-12", '=', 3, 7, 10, 10, 12);
        steps("2: 7-9 10-12", '=', 3, 0, 9, 10, 40);
        steps("1: 7-9 10-12", '=', 3, 6, 9, 10, 12);
        steps("1: 7-9 10-12", '=', 3, 7, 9, 10, 13);
        steps("0: 7-9 10-12", '=', 3, 7, 9, 10, 12);
        steps("2: 10-10 13-13", '=', 3, 0, 40, 13, 13);
        steps("2: 10-10 13-13", '=', 3, 10, 10, 0, 40);
        steps("2: 5-9 5-9", '=', 0, 3, 9, 5, 12);
        steps("2: 0-20 20-40", '=', 20, 0, 40, 0, 40);
    }

    private void stepsOfApart() {
        steps("0: 10-10 7-30", '#', 3, 10, 10, 7, 30);
        steps("1: 10-10 13-30", '#', 3, 10, 10, 8, 30);
        steps("1: 10-10 13-30", '#', 3, 10, 10, 10, 30);
        steps("1: 10-10 13-30", '#', 3, 10, 10, 12, 30);
        steps("0: 10-10 13-30", '#', 3, 10, 10, 13, 30);
        steps("0: 10-10 0-13", '#', 3, 10, 10, 0, 13);
        steps("1: 10-10 0-7", '#', 3, 10, 10, 0, 12);
        steps("1: 10-10 0-7", '#', 3, 10, 10, 0, 10);
        steps("1: 10-10 0-7", '#', 3, 10, 10, 0, 8);
        steps("0: 10-10 0-7", '#', 3, 10, 10, 0, 7);
        steps("1: 10-10 13-13", '#', 3, 10, 10, 8, 13);
        steps("1: 10-10 7-7", '#', 3, 10, 10, 7, 12);
        steps("0: 7-30 10-10", '#', 3, 7, 30, 10, 10);
        steps("1: 13-30 10-10", '#', 3, 8, 30, 10, 10);
        steps("1: 13-30 10-10", '#', 3, 12, 30, 10, 10);
        steps("0: 13-30 10-10", '#', 3, 13, 30, 10, 10);
        steps("0: 0-13 10-10", '#', 3, 0, 13, 10, 10);
        steps("1: 0-7 10-10", '#', 3, 0, 12, 10, 10);
        steps("1: 0-7 10-10", '#', 3, 0, 8, 10, 10);
        steps("0: 0-7 10-10", '#', 3, 0, 7, 10, 10);
        steps("0: 10-11 8-30", '#', 3, 10, 11, 8, 30);
        steps("0: 9-30 10-11", '#', 3, 9, 30, 10, 11);
        steps("0: 10-10 13-13", '#', 3, 10, 10, 13, 13);
        steps("0: 10-10 7-7", '#', 3, 10, 10, 7, 7);
        steps("1: 10-10 11-30", '#', 1, 10, 10, 10, 30);
        steps("1: 10-10 0-9", '#', 1, 10, 10, 0, 10);
        steps("1: 20-20 40-40", '#', 20, 20, 20, 1, 40);
        steps("1: 20-20 0-0", '#', 20, 20, 20, 0, 39);
        steps("0: 20-20 0-40", '#', 20, 20, 20, 0, 40);
    }

    /** A constraint from door 0 to door 1, after one that is no matter, leaves no height, or does. */
    private void conflict(boolean due, char kind, int gap, int... bounds) {
        Scene scene = () -> {
            LintelBrothers x = Scenes.doors(bounds);
            x.addConstraint('#', 0, 1, 1);
            x.removeConstraint(0);
            x.addConstraint('<', 2, 0, 0);
            x.addConstraint(kind, 0, 1, gap);
            return x;
        };
        for (Scene.Deed call : new Scene.Deed[] {LintelBrothers::pass, LintelBrothers::settle}) {
            if (due) {
                rejected(LintelBrothers.CONFLICT, 2, scene, call);
            } else {
                same(true, () -> call.on(scene.make()) instanceof Integer);
            }
        }
        same(due ? "throws.NoSuchElementException" : "answer", () -> scene.make().wouldChange() >= 0 ? "answer" : "");
    }

    private void conflict() {
        conflict(true, '<', 3, 5, 9, 0, 7, 0, 0);
        conflict(false, '<', 2, 5, 9, 0, 7, 0, 0);
        conflict(true, '<', 0, 8, 9, 0, 7, 0, 0);
        conflict(true, '=', 3, 5, 9, 0, 7, 0, 0);
        conflict(false, '=', 2, 5, 9, 0, 7, 0, 0);
        conflict(true, '=', 3, 0, 5, 9, 40, 0, 0);
        conflict(false, '=', 3, 0, 5, 8, 40, 0, 0);
        conflict(true, '#', 3, 10, 10, 8, 12, 0, 0);
        conflict(false, '#', 3, 10, 10, 8, 13, 0, 0);
        conflict(false, '#', 3, 10, 10, 7, 12, 0, 0);
        conflict(true, '#', 3, 8, 12, 10, 10, 0, 0);
        conflict(false, '#', 3, 7, 12, 10, 10, 0, 0);
        conflict(true, '#', 1, 7, 7, 7, 7, 0, 0);
        conflict(true, '#', 20, 20, 20, 1, 39, 0, 0);
        commandsRejected(0, LintelBrothers.CONFLICT, Scenes.TORN.then(x -> {
            Scenes.type(x, "pass");
            return 0;
        }));
    }

    // ---- peace

    private void peace() {
        holds("A peace is a choice of a height for each door, within its bounds, that satisfies all "
                + "constraints.", () -> {
            for (int number = 0; number < 400; number++) {
                Riddle riddle = new Riddle(number);
                LintelBrothers x = riddle.object();
                int[] first = riddle.firstPeace();
                same(riddle.toString(), first != null, x::hasPeace);
                if (first != null) {
                    same(riddle.toString(), true, () -> riddle.isPeace(
                            new int[] {x.peaceHeight(0), x.peaceHeight(1), x.peaceHeight(2)}));
                }
            }
        });
        holds("Of two of them, the one in which the door with the lowest index that has different heights has the "
                + "lower height comes first.", () -> {
            for (int number = 0; number < 400; number++) {
                Riddle riddle = new Riddle(number);
                int[] first = riddle.firstPeace();
                if (first != null) {
                    LintelBrothers x = riddle.object();
                    same(riddle.toString(), first[0] + " " + first[1] + " " + first[2], () -> Look.peace(x));
                }
            }
            LintelBrothers apart = Scenes.doors(0, 40, 0, 40);
            apart.addConstraint('#', 1, 0, 20);
            same("0 20", () -> Look.peace(apart));
            apart.addConstraint('<', 1, 0, 0);
            same("20 0", () -> Look.peace(apart));
            LintelBrothers later = Scenes.doors(0, 40, 0, 40, 0, 40);
            later.addConstraint('#', 2, 1, 20);
            same("doors of the same height ahead of it", "0 0 20", () -> Look.peace(later));
            LintelBrothers last = Scenes.doors(0, 40, 0, 40, 0, 40, 0, 40, 0, 40, 0, 40);
            last.addConstraint('#', 5, 4, 7);
            same("0 0 0 0 0 7", () -> Look.peace(last));
        });
        holds("Without doors, there is a peace without heights.", () -> {
            LintelBrothers x = new LintelBrothers();
            same(true, x::hasPeace);
            same(0, x::peaceSum);
            throwing(IndexOutOfBoundsException.class, () -> x.peaceHeight(0));
        });
    }
}
