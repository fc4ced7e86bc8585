import java.util.NoSuchElementException;

/** Promises 14 to 23: constraints. */
final class ConstraintChapter extends Chapter {
    private static final Class<IllegalArgumentException> NO_ARGUMENT = IllegalArgumentException.class;
    private static final Class<IndexOutOfBoundsException> NO_DOOR = IndexOutOfBoundsException.class;
    private static final String ID_OF_A_CONSTRAINT = "- `id`: the id of a constraint";
    private static final String NO_SUCH_ID = "Throws `NoSuchElementException` if there is no constraint with this id";

    /** Six doors and no constraint. */
    private static final Scene SIX = () -> Scenes.doors(0, 40, 1, 39, 2, 38, 3, 37, 4, 36, 5, 35);

    ConstraintChapter(Sentences sentences) {
        super(sentences);
    }

    @Override
    void tell() {
        promise(14);
        addConstraint();
        addConstraintRefuses();
        promise(15);
        removeConstraint();
        promise(16);
        holds("Returns the number of constraints.", this::constraintCount);
        promise(17);
        constraintAt();
        parts();
        promise(22);
        isSafe();
        promise(23);
        isBroken();
    }

    private static String constraint(LintelBrothers x, int id) {
        return "" + x.firstOf(id) + x.kindOf(id) + x.secondOf(id) + "+" + x.gapOf(id);
    }

    // ---- promise 14

    private void addConstraint() {
        holds("Adds a constraint.", () -> {
            LintelBrothers x = SIX.make();
            x.addConstraint('<', 0, 5, 7);
            same(1, x::constraintCount);
            same("0<5+7", () -> constraint(x, 0));
            x.addConstraint('#', 5, 0, 7);
            same(2, x::constraintCount);
            same("5#0+7", () -> constraint(x, 1));
            same("0<5+7", () -> constraint(x, 0));
        });
        holds("Bounds are not narrowed by this call.", () -> {
            for (char kind : KINDS) {
                LintelBrothers x = Scenes.narrowed(5, 30, 0, 20, 7, 7);
                x.addConstraint(kind, 0, 1, 20);
                x.addConstraint(kind, 2, 1, 3);
                same("5-30 0-20 7-7", () -> Look.allBounds(x));
                same(0, x::passCount);
                same(0, x::changeCount);
            }
        });
        holds("- `kind`: '<' for lower, '=' for exact, '#' for apart", () -> {
            LintelBrothers lower = Scenes.doors(5, 30, 6, 20);
            lower.addConstraint('<', 0, 1, 3);
            lower.settle();
            same("5-17 8-20", () -> Look.allBounds(lower));
            LintelBrothers exact = Scenes.doors(5, 9, 6, 20);
            exact.addConstraint('=', 0, 1, 3);
            exact.settle();
            same("5-9 8-12", () -> Look.allBounds(exact));
            LintelBrothers apart = Scenes.doors(5, 5, 6, 20);
            apart.addConstraint('#', 1, 0, 3);
            apart.settle();
            same("5-5 8-20", () -> Look.allBounds(apart));
            for (char kind = 0; kind < 300; kind++) {
                char tried = kind;
                boolean isKind = kind == '<' || kind == '=' || kind == '#';
                same("kind " + (int) kind, isKind ? 0 : "throws.IllegalArgumentException",
                        () -> Scenes.doors(0, 40, 0, 40).addConstraint(tried, 0, 1, 3));
            }
        });
        holds("- `first`: the index of the first door", () -> {
            for (int first = 0; first < 5; first++) {
                int door = first;
                LintelBrothers x = SIX.make();
                same(0, () -> x.addConstraint('<', door, 5, 20));
                same(door, () -> x.firstOf(0));
                x.pass();
                same(15, () -> x.highOf(door));
            }
        });
        holds("- `second`: the index of the second door", () -> {
            for (int second = 1; second < 6; second++) {
                int door = second;
                LintelBrothers x = SIX.make();
                same(0, () -> x.addConstraint('<', 0, door, 20));
                same(door, () -> x.secondOf(0));
                x.pass();
                same(20, () -> x.lowOf(door));
            }
        });
        holds("- `gap`: the gap, 0 to 20, but not 0 for the kind apart", () -> {
            for (char kind : KINDS) {
                int least = kind == '#' ? 1 : 0;
                for (int gap = least; gap <= 20; gap++) {
                    int its = gap;
                    LintelBrothers x = SIX.make();
                    x.addConstraint(kind, 0, 1, its);
                    same(its, () -> x.gapOf(0));
                }
                for (int gap : outside(least, 20)) {
                    throwing(NO_ARGUMENT, () -> SIX.make().addConstraint(kind, 0, 1, gap));
                }
            }
        });
        holds("Returns the id of the constraint.", () -> {
            LintelBrothers x = SIX.make();
            for (int id = 0; id < 10; id++) {
                int next = id;
                same(next, () -> x.addConstraint(KINDS[next % 3], next % 6, (next + 1) % 6, next + 1));
                same(next + 1, () -> x.gapOf(next));
            }
            x.removeConstraint(9);
            same(10, () -> x.addConstraint('<', 0, 1, 20));
            x.undo();
            same("an id that was undone", 10, () -> x.addConstraint('<', 0, 1, 19));
            x.undo();
            x.undo();
            x.undo();
            same("9 is free again", 9, () -> x.addConstraint('<', 0, 1, 19));
            same(3, () -> Scenes.SOME.make().addConstraint('<', 0, 1, 19));
        });
    }

    private void addConstraintRefuses() {
        holds("Throws `IndexOutOfBoundsException` if there is no such door, for first or second", () -> {
            refusesOtherDoors((x, door) -> x.addConstraint('<', door, 0, 5));
            refusesOtherDoors((x, door) -> x.addConstraint('#', 1, door, 5));
            refusesOtherDoors((x, door) -> x.addConstraint('=', door, door, 5));
            refusesOtherDoors((x, door) -> x.addConstraint('>', door, 0, 21));
            refusesOtherDoors((x, door) -> x.addConstraint('#', 0, door, 0));
        });
        holds("Throws `IllegalArgumentException` if there is no such kind, gap is out of range, or both doors are the "
                + "same", () -> {
            for (Scene scene : new Scene[] {Scenes.SOME, Scenes.FULL}) {
                for (char kind : new char[] {0, ' ', '!', '"', '$', ';', '>', '-', 'a', 127, 256 + '<', 65535}) {
                    refused(NO_ARGUMENT, scene, x -> x.addConstraint(kind, 0, 1, 5));
                }
                for (char kind : KINDS) {
                    refusesAll(NO_ARGUMENT, scene, outside(kind == '#' ? 1 : 0, 20),
                            (x, gap) -> x.addConstraint(kind, 0, 1, gap));
                    for (int door = 0; door < 3; door++) {
                        int both = door;
                        refused(NO_ARGUMENT, scene, x -> x.addConstraint(kind, both, both, 5));
                    }
                }
            }
        });
        holds("Throws `UnsupportedOperationException` if the call is rejected with the reason CONSTRAINT_LIMIT or "
                + "SAME_CONSTRAINT", () -> {
            rejected(LintelBrothers.CONSTRAINT_LIMIT, 1, Scenes.FULL, x -> x.addConstraint('#', 2, 4, 20));
            rejected(LintelBrothers.CONSTRAINT_LIMIT, 1, Scenes.FULL, x -> x.addConstraint('<', 0, 4, 0));
            rejected(LintelBrothers.SAME_CONSTRAINT, 0, Scenes.SOME, x -> x.addConstraint('#', 0, 2, 4));
            rejected(LintelBrothers.SAME_CONSTRAINT, 2, Scenes.SOME, x -> x.addConstraint('=', 2, 1, 5));
            same(3, () -> Scenes.SOME.make().addConstraint('<', 1, 0, 3));
        });
    }

    // ---- promise 15

    private void removeConstraint() {
        holds("Removes a constraint, and resets all bounds.", () -> {
            for (int id : Scenes.FULL_IDS) {
                LintelBrothers x = Scenes.FULL.make();
                x.removeConstraint(id);
                StringBuilder left = new StringBuilder();
                for (int other : Scenes.FULL_IDS) {
                    left.append(other == id ? "" : other + " ");
                }
                same(left.toString().strip(), () -> Look.ids(x));
                same("0-40 1-39 2-38 3-37 4-36 5-35", () -> Look.allBounds(x));
                throwing(NoSuchElementException.class, () -> x.kindOf(id));
                same(id == 11 ? "4<5+1" : "0<4+0", () -> constraint(x, id == 11 ? 6 : 11));
                same(id == 1 ? "1<2+1" : "0<1+1", () -> constraint(x, id == 1 ? 2 : 1));
            }
        });
        holds(ID_OF_A_CONSTRAINT, () -> {
            LintelBrothers x = Scenes.FULL.make();
            for (int id : new int[] {11, 1, 6, 10, 2}) {
                x.removeConstraint(id);
            }
            same("3 4 7 8 9", () -> Look.ids(x));
            same("2<3+1 3<4+1 0#5+2 1#5+2 0=1+1", () -> constraint(x, 3) + " " + constraint(x, 4) + " "
                    + constraint(x, 7) + " " + constraint(x, 8) + " " + constraint(x, 9));
        });
        holds("Returns the number of constraints after the call.", () -> {
            LintelBrothers x = Scenes.FULL.make();
            for (int at = 0; at < 10; at++) {
                int id = Scenes.FULL_IDS[at];
                same(9 - at, () -> x.removeConstraint(id));
            }
            same(12, () -> x.addConstraint('<', 0, 1, 1));
            same(0, () -> x.removeConstraint(12));
        });
        holds(NO_SUCH_ID, () -> refusesOtherIds(LintelBrothers::removeConstraint));
    }

    // ---- promises 16 and 17

    private void constraintCount() {
        LintelBrothers x = SIX.make();
        same(0, x::constraintCount);
        for (int gap = 1; gap <= 10; gap++) {
            x.addConstraint('#', 0, 1, gap);
            same(gap, x::constraintCount);
        }
        Check.answer(() -> x.addConstraint('#', 0, 1, 11));
        same(10, x::constraintCount);
        x.removeConstraint(0);
        same(9, x::constraintCount);
        x.undo();
        same(10, x::constraintCount);
        same(0, () -> new LintelBrothers().constraintCount());
    }

    private void constraintAt() {
        holds("Returns a constraint by its position in the order of ids.", () -> {
            LintelBrothers x = SIX.make();
            x.addConstraint('<', 0, 1, 3);
            x.addConstraint('<', 0, 1, 20);
            x.addConstraint('#', 4, 5, 1);
            same("0 1 2", () -> Look.ids(x));
            x.removeConstraint(0);
            same(1, () -> x.constraintAt(0));
            same(2, () -> x.constraintAt(1));
            x.addConstraint('<', 0, 1, 3);
            same("1 2 3", () -> Look.ids(x));
        });
        holds("- `position`: the position, from 0", () -> {
            for (int position = 0; position < 10; position++) {
                int at = position;
                same(Scenes.FULL_IDS[at], () -> Scenes.FULL.make().constraintAt(at));
            }
        });
        holds("Returns the id of the constraint.", () -> {
            LintelBrothers x = Scenes.SOME.make();
            same(0, () -> x.constraintAt(0));
            same(2, () -> x.constraintAt(1));
            same('=', () -> x.kindOf(x.constraintAt(1)));
        });
        holds("Throws `NoSuchElementException` if there is no such position",
                () -> refusesOtherPositions(2, 10, LintelBrothers::constraintAt));
    }

    // ---- promises 18 to 21

    /** The answers about the ten constraints of FULL, and about ids of none. */
    private void ids(Numbered question, Object... due) {
        holds(ID_OF_A_CONSTRAINT, () -> {
            for (int at = 0; at < 10; at++) {
                int id = Scenes.FULL_IDS[at];
                same("id " + id, due[at], () -> question.with(Scenes.FULL.make(), id));
            }
        });
    }

    private void noSuchId(Numbered question) {
        holds(NO_SUCH_ID, () -> refusesOtherIds(question));
    }

    private void parts() {
        promise(18);
        holds("Returns the kind of a constraint.", () -> {
            same('#', () -> Scenes.SOME.make().kindOf(0));
            same('=', () -> Scenes.SOME.make().kindOf(2));
        });
        ids(LintelBrothers::kindOf, '<', '<', '<', '<', '<', '#', '#', '=', '=', '<');
        holds("Returns '<', '=' or '#'.", () -> {
            for (char kind : KINDS) {
                LintelBrothers x = SIX.make();
                x.addConstraint(kind, 0, 1, 3);
                same(kind, () -> x.kindOf(0));
            }
        });
        noSuchId(LintelBrothers::kindOf);
        promise(19);
        holds("Returns the first door of a constraint.", () -> {
            same(0, () -> Scenes.SOME.make().firstOf(0));
            same(2, () -> Scenes.SOME.make().firstOf(2));
        });
        ids(LintelBrothers::firstOf, 0, 1, 2, 3, 4, 0, 1, 0, 2, 0);
        indexes(true);
        noSuchId(LintelBrothers::firstOf);
        promise(20);
        holds("Returns the second door of a constraint.", () -> {
            same(2, () -> Scenes.SOME.make().secondOf(0));
            same(1, () -> Scenes.SOME.make().secondOf(2));
        });
        ids(LintelBrothers::secondOf, 1, 2, 3, 4, 5, 5, 5, 1, 3, 4);
        indexes(false);
        noSuchId(LintelBrothers::secondOf);
        promise(21);
        holds("Returns the gap of a constraint.", () -> {
            same(4, () -> Scenes.SOME.make().gapOf(0));
            same(5, () -> Scenes.SOME.make().gapOf(2));
        });
        ids(LintelBrothers::gapOf, 1, 1, 1, 1, 1, 2, 2, 1, 1, 0);
        holds("Returns the gap.", () -> {
            for (int gap : new int[] {0, 1, 9, 10, 19, 20}) {
                LintelBrothers x = SIX.make();
                x.addConstraint('=', 0, 1, gap);
                same(gap, () -> x.gapOf(0));
            }
        });
        noSuchId(LintelBrothers::gapOf);
    }

    private void indexes(boolean ofFirst) {
        holds("Returns the index of the door.", () -> {
            for (int door = 0; door < 6; door++) {
                int its = door;
                int other = (door + 1) % 6;
                LintelBrothers x = SIX.make();
                x.addConstraint('#', ofFirst ? its : other, ofFirst ? other : its, 2);
                same(its, () -> ofFirst ? x.firstOf(0) : x.secondOf(0));
            }
        });
    }

    // ---- promises 22 and 23

    /** A constraint between doors of these bounds within greater frames, with another constraint ahead of it. */
    private static LintelBrothers between(char kind, int gap, int... bounds) {
        LintelBrothers x = Scenes.narrowed(bounds);
        x.addConstraint('<', 0, 1, 20);
        x.addConstraint(kind, 0, 1, gap);
        return x;
    }

    /** All pairs of heights within small bounds are tried, for all kinds and gaps. */
    private void byAllPairs(boolean isSafe) {
        for (int number = 0; number < 4 * 4 * 4 * 4; number++) {
            int[] bounds = {number % 4, number / 4 % 4, number / 16 % 4, number / 64};
            if (bounds[0] <= bounds[1] && bounds[2] <= bounds[3]) {
                for (char kind : KINDS) {
                    for (int gap = kind == '#' ? 1 : 0; gap < 5; gap++) {
                        int met = metPairs(kind, gap, bounds);
                        int all = (bounds[1] - bounds[0] + 1) * (bounds[3] - bounds[2] + 1);
                        LintelBrothers x = between(kind, gap, bounds);
                        boolean due = isSafe ? met == all : met == 0;
                        same(Look.allBounds(x) + kind + gap, due, () -> isSafe ? x.isSafe(1) : x.isBroken(1));
                    }
                }
            }
        }
    }

    private static int metPairs(char kind, int gap, int... bounds) {
        int met = 0;
        for (int first = bounds[0]; first <= bounds[1]; first++) {
            for (int second = bounds[2]; second <= bounds[3]; second++) {
                met += Model.isMet(kind, first, second, gap) ? 1 : 0;
            }
        }
        return met;
    }

    private void isSafe() {
        holds("Tells whether a constraint is satisfied by all pairs of heights within the bounds of its doors.", () -> {
            same(true, () -> between('<', 3, 0, 5, 8, 9).isSafe(1));
            same(false, () -> between('<', 3, 0, 6, 8, 9).isSafe(1));
            same(true, () -> between('=', 3, 5, 5, 8, 8).isSafe(1));
            same(false, () -> between('=', 3, 5, 5, 8, 9).isSafe(1));
            same(false, () -> between('=', 3, 4, 5, 8, 8).isSafe(1));
            same(true, () -> between('#', 3, 5, 5, 8, 9).isSafe(1));
            same(true, () -> between('#', 3, 8, 9, 5, 5).isSafe(1));
            same(false, () -> between('#', 3, 5, 6, 8, 9).isSafe(1));
            same(false, () -> between('#', 20, 20, 20, 0, 40).isSafe(1));
            same(true, () -> between('#', 20, 20, 20, 0, 0).isSafe(1));
            same(true, () -> between('#', 20, 20, 20, 40, 40).isSafe(1));
            byAllPairs(true);
        });
        ids((x, id) -> {
            x.setFrame(0, 0, 0);
            return x.isSafe(id);
        }, true, false, false, false, false, true, false, false, false, true);
        holds("Returns whether it always is.", () -> {
            LintelBrothers x = Scenes.doors(0, 10, 5, 20);
            x.addConstraint('<', 0, 1, 0);
            same(false, () -> x.isSafe(0));
            x.narrow(1, 10, 40);
            same(true, () -> x.isSafe(0));
            x.reset();
            same(false, () -> x.isSafe(0));
            same(false, () -> between('<', 0, 5, 5, 4, 4).isSafe(1));
        });
        noSuchId(LintelBrothers::isSafe);
    }

    private void isBroken() {
        holds("Tells whether a constraint is satisfied by no pair of heights within the bounds of its doors.", () -> {
            same(false, () -> between('<', 3, 6, 9, 8, 9).isBroken(1));
            same(true, () -> between('<', 3, 7, 9, 8, 9).isBroken(1));
            same(false, () -> between('=', 3, 5, 6, 9, 9).isBroken(1));
            same(true, () -> between('=', 3, 5, 6, 10, 12).isBroken(1));
            same(true, () -> between('=', 3, 7, 9, 8, 9).isBroken(1));
            same(false, () -> between('#', 3, 5, 6, 7, 8).isBroken(1));
            same(true, () -> between('#', 3, 6, 7, 7, 8).isBroken(1));
            same(false, () -> between('#', 2, 7, 8, 6, 7).isBroken(1));
            same(true, () -> between('#', 20, 20, 20, 1, 39).isBroken(1));
            byAllPairs(false);
        });
        ids((x, id) -> {
            x.setFrame(1, 0, 0);
            x.setFrame(4, 1, 1);
            return x.isBroken(id);
        }, true, false, false, true, false, false, false, true, false, false);
        holds("Returns whether it never is.", () -> {
            LintelBrothers x = Scenes.doors(0, 10, 5, 20);
            x.addConstraint('<', 1, 0, 5);
            same(false, () -> x.isBroken(0));
            x.narrow(0, 0, 9);
            same(true, () -> x.isBroken(0));
            x.reset();
            same(false, () -> x.isBroken(0));
            same(false, () -> between('<', 0, 4, 5, 4, 5).isBroken(1));
        });
        noSuchId(LintelBrothers::isBroken);
    }
}
