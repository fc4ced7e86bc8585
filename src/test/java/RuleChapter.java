import java.util.ArrayDeque;
import java.util.Deque;
import java.util.NoSuchElementException;

/** Terms: rejections, changes, exceptions, further rules and the constants. */
final class RuleChapter extends Chapter {
    private static final Class<IndexOutOfBoundsException> NO_INDEX = IndexOutOfBoundsException.class;
    private static final Class<IllegalArgumentException> NO_ARGUMENT = IllegalArgumentException.class;
    private static final Class<NoSuchElementException> NO_ELEMENT = NoSuchElementException.class;
    private static final Class<IllegalStateException> NO_STATE = IllegalStateException.class;

    /** Two doors and a constraint that is settled, with three changes to undo; many a change makes no difference. */
    private static final Scene QUIET = () -> {
        LintelBrothers x = Scenes.doors(5, 9, 20, 30);
        x.addConstraint('<', 0, 1, 3);
        return x;
    };

    RuleChapter(Sentences sentences) {
        super(sentences);
    }

    @Override
    void tell() {
        rejections();
        changes();
        exceptions();
        furtherRules();
        constants();
    }

    // ---- rejections

    private void rejections() {
        holds("A call is rejected for the first reason that applies, in the order in which its method names "
                + "them.", () -> {
            rejected(LintelBrothers.CONSTRAINT_LIMIT, 1, Scenes.FULL, x -> x.addConstraint('<', 0, 1, 1));
            rejected(LintelBrothers.CONSTRAINT_LIMIT, 1, Scenes.FULL, x -> x.addConstraint('<', 0, 4, 0));
            commandsRejected(0, LintelBrothers.CONSTRAINT_LIMIT, Scenes.full("0<1+1"));
            rejected(LintelBrothers.SAME_CONSTRAINT, 0, QUIET, x -> x.addConstraint('<', 0, 1, 3));
        });
        holds("Every reason is a constant, and has a detail that is described there.", () -> {
            rejected(1, 6, Scenes.FULL, x -> x.addDoor(0, 1));
            rejected(2, 1, Scenes.FULL, x -> x.addConstraint('#', 3, 4, 20));
            rejected(3, 2, Scenes.SOME, x -> x.addConstraint('=', 2, 1, 5));
            rejected(4, 12, Scenes.SOME, x -> x.narrow(0, 1, 2));
            rejected(5, 1, Scenes.TORN, x -> x.pass());
            commandsRejected(1, 1, Scenes.full("reset;door 0-1"));
            Scene sixth = Scenes.full("reset;door 0-1").then(LintelBrothers::execute);
            same("6 1", () -> Look.rejection(sixth.make()));
        });
        holds("A rejected call changes nothing but the latest rejection.", () -> {
            rejected(LintelBrothers.DOOR_LIMIT, 6, Scenes.FULL, x -> x.addDoor(9, 9));
            rejected(LintelBrothers.EMPTY, 3, Scenes.FULL, x -> x.narrow(2, 0, 2));
            rejected(LintelBrothers.CONSTRAINT_LIMIT, 1, Scenes.FULL, x -> x.addConstraint('=', 5, 0, 2));
            rejected(LintelBrothers.SAME_CONSTRAINT, 0, Scenes.SOME, x -> x.addConstraint('#', 0, 2, 4));
            Scene torn = Scenes.SOME.then(x -> x.addConstraint('<', 0, 1, 20));
            rejected(LintelBrothers.CONFLICT, 3, torn, LintelBrothers::pass);
            rejected(LintelBrothers.CONFLICT, 3, torn, LintelBrothers::settle);
            Scene tornLate = Scenes.FULL.then(x -> {
                x.removeConstraint(1);
                return x.addConstraint('<', 1, 0, 0);
            });
            rejected(LintelBrothers.CONFLICT, 12, tornLate, LintelBrothers::settle);
            commandsRejected(10, LintelBrothers.DOOR_LIMIT, Scenes.FULL);
            commandsRejected(4, LintelBrothers.EMPTY,
                    Scenes.some("frame 0 1-9;drop 0;door 3-4;pass;narrow 3 0-1;drop 9"));
        });
    }

    // ---- changes

    private void changes() {
        holds("A change is a call of addDoor, setFrame, narrow, reset, addConstraint, removeConstraint, pass, settle "
                + "or execute that returns a value, also if nothing is different after it.", this::whatIsAChange);
        holds("The latest 8 changes can be undone.", this::latestEight);
        holds("Undo and the snapshot cover everything but the input, the output, the latest rejection and the latest "
                + "syntax error; they also cover the id that is given next.", this::whatIsCovered);
    }

    private void isChange(Scene.Deed change) {
        same(2, () -> QUIET.make().undo());
        Scene changed = QUIET.then(change);
        same(3, () -> changed.make().undo());
        Scene undone = changed.then(LintelBrothers::undo);
        same(Look.data(QUIET.make()), () -> Look.data(undone.make()));
    }

    private void isNoChange(Scene.Deed call) {
        Scene called = QUIET.then(call);
        same(2, () -> called.make().undo());
        Scene undone = called.then(LintelBrothers::undo);
        same("5-9 in 5-9, 20-30 in 20-30, passes 0, changes 0", () -> Look.data(undone.make()));
    }

    private void whatIsAChange() {
        Scene.Deed[] changes = {x -> x.addDoor(3, 4), x -> x.setFrame(0, 5, 9), x -> x.setFrame(1, 0, 40),
            x -> x.narrow(0, 0, 40), x -> x.narrow(0, 6, 7), LintelBrothers::reset, x -> x.addConstraint('#', 1, 0, 2),
            x -> x.removeConstraint(0), LintelBrothers::pass, LintelBrothers::settle, x -> Scenes.run(x, "reset"),
            x -> Scenes.run(x, "pass;door 1-2;drop 0")};
        for (Scene.Deed change : changes) {
            isChange(change);
        }
        same(0, () -> QUIET.make().setFrame(0, 5, 9));
        same(0, () -> QUIET.make().narrow(0, 0, 40));
        same(0, () -> QUIET.make().reset());
        same(0, () -> QUIET.make().pass());
        Scene.Deed[] others = {x -> x.addDoor(4, 3), x -> x.setFrame(0, 5, 41), x -> x.narrow(0, 10, 20),
            x -> x.narrow(2, 0, 40), x -> x.addConstraint('<', 0, 1, 3), x -> x.removeConstraint(1),
            x -> Scenes.run(x, "door 1-2;"), x -> Scenes.run(x, "door 1-2;drop 1"),
            x -> Scenes.run(x, "door 1-2;narrow 0 1-2"), x -> x.appendInput('x'), LintelBrothers::saveSnapshot,
            x -> x.writeDoor(0), x -> x.writeConstraint(0), LintelBrothers::isSettled, LintelBrothers::wouldChange,
            x -> x.lowestHeight(1), x -> x.lowestHeightByPaths(1), x -> x.peaceHeight(0), LintelBrothers::hasPeace,
            x -> x.arePossible(0, 5, 1, 20), LintelBrothers::isConsistent, LintelBrothers::restoreSnapshot};
        for (Scene.Deed other : others) {
            isNoChange(other);
        }
    }

    /** Narrows and undoes by turns, in many measures, beside a list of what the bounds were. */
    private void latestEight() {
        for (int times = 1; times <= 12; times++) {
            LintelBrothers x = Scenes.doors(0, 40);
            x.saveSnapshot();
            x.restoreSnapshot();
            Deque<Integer> earlier = new ArrayDeque<>();
            for (int round = 0; round < 4; round++) {
                changeAndUndo(x, earlier, times, round * 3);
            }
        }
        LintelBrothers x = Scenes.doors(0, 40);
        for (int low = 1; low <= 30; low++) {
            x.narrow(0, low, 40);
        }
        throwing(UnsupportedOperationException.class, () -> x.narrow(0, 0, 1));
        throwing(NO_ARGUMENT, () -> x.setFrame(0, 1, 0));
        for (int left = 7; left >= 0; left--) {
            int due = left;
            same(due, x::undo);
            same(22 + due, () -> x.lowOf(0));
        }
        throwing(NO_STATE, x::undo);
        same(22, () -> x.lowOf(0));
    }

    private void changeAndUndo(LintelBrothers x, Deque<Integer> earlier, int changes, int undos) {
        for (int change = 0; change < changes; change++) {
            earlier.push(x.lowOf(0));
            x.setFrame(0, (x.lowOf(0) + 1) % 40, 40);
            if (earlier.size() > 8) {
                earlier.removeLast();
            }
        }
        for (int undo = 0; undo < undos; undo++) {
            if (earlier.isEmpty()) {
                throwing(NO_STATE, x::undo);
            } else {
                int low = earlier.pop();
                same(earlier.size(), x::undo);
                same(low, () -> x.lowOf(0));
            }
        }
    }

    private void whatIsCovered() {
        Scene.Deed[] changes = {x -> x.addDoor(3, 4), x -> x.setFrame(0, 4, 31), x -> x.narrow(0, 14, 15),
            LintelBrothers::reset, x -> x.addConstraint('<', 2, 1, 4), x -> x.removeConstraint(0),
            x -> x.removeConstraint(2), LintelBrothers::pass, LintelBrothers::settle};
        for (Scene.Deed change : changes) {
            leaves(Scenes.SOME, x -> {
                change.on(x);
                return x.undo();
            });
        }
        Scene saved = Scenes.some("").then(LintelBrothers::saveSnapshot);
        String data = Look.data(saved.make());
        Scene.Deed many = x -> {
            for (Scene.Deed change : changes) {
                change.on(x);
            }
            Scenes.run(x, "0<1+7;narrow 2 7-7");
            x.writeConstraint(3);
            Check.answer(() -> x.narrow(2, 1, 1));
            Check.answer(() -> Scenes.run(x, "settled"));
            Scenes.type(x, "dr");
            return 0;
        };
        Scene restored = saved.then(many).then(LintelBrothers::restoreSnapshot);
        same(data, () -> Look.data(restored.make()));
        same("3", () -> Facts.nextId(restored.make()));
        othersStay(restored);
        othersStay(saved.then(many).then(LintelBrothers::undo).then(LintelBrothers::undo));
        Scene reused = QUIET.then(x -> {
            x.addConstraint('<', 0, 1, 4);
            x.removeConstraint(1);
            x.undo();
            return x.undo();
        });
        same(1, () -> reused.make().addConstraint('=', 0, 1, 15));
    }

    private void othersStay(Scene scene) {
        same("3:2<1+4", () -> Look.output(scene.make()));
        same("4 7", () -> Look.rejection(scene.make()));
        same(6, () -> scene.make().syntaxErrorOffset());
        same(2, () -> Facts.inputLength(scene.make()));
        same(1, () -> Scenes.run(scene.then(x -> x.addConstraint('#', 0, 1, 20)).make(), "op "
                + scene.make().constraintAt(0)));
    }

    // ---- exceptions

    private void exceptions() {
        holds("A call that throws an exception changes nothing, except where this is stated; an exception other than "
                + "UnsupportedOperationException does not change the latest rejection.", this::changesNothing);
        holds("If several exceptions of a method apply, the one that is listed first is thrown.", this::firstListed);
    }

    private void changesNothing() {
        for (Scene scene : new Scene[] {Scenes.SOME, Scenes.FULL}) {
            Numbered[] ofDoors = {(x, no) -> x.setFrame(no, 1, 2), (x, no) -> x.narrow(no, 1, 2),
                LintelBrothers::lowOf, LintelBrothers::highOf, LintelBrothers::frameLow, LintelBrothers::frameHigh,
                LintelBrothers::widthOf, LintelBrothers::isFixed, LintelBrothers::constraintsOf,
                (x, no) -> x.addConstraint('<', no, 0, 7), (x, no) -> x.addConstraint('<', 0, no, 7),
                LintelBrothers::lowestHeight, LintelBrothers::lowestHeightByPaths, LintelBrothers::peaceHeight,
                (x, no) -> x.arePossible(no, 1, 0, 1), (x, no) -> x.arePossible(0, 1, no, 1),
                LintelBrothers::writeDoor, LintelBrothers::outputAt};
            for (Numbered call : ofDoors) {
                refusesAll(NO_INDEX, scene, new int[] {-1, 30}, call);
            }
            Numbered[] ofConstraints = {LintelBrothers::removeConstraint, LintelBrothers::constraintAt,
                LintelBrothers::kindOf, LintelBrothers::firstOf, LintelBrothers::secondOf, LintelBrothers::gapOf,
                LintelBrothers::isSafe, LintelBrothers::isBroken, LintelBrothers::doorByWidth,
                LintelBrothers::constraintByGap, LintelBrothers::writeConstraint};
            for (Numbered call : ofConstraints) {
                refusesAll(NO_ELEMENT, scene, new int[] {-1, 30}, call);
            }
            Numbered[] ofHeights = {(x, no) -> x.addDoor(no, 40), (x, no) -> x.addDoor(0, no),
                (x, no) -> x.setFrame(0, no, 40), (x, no) -> x.setFrame(0, 0, no), (x, no) -> x.narrow(0, no, 40),
                (x, no) -> x.narrow(0, 0, no), (x, no) -> x.addConstraint('<', 0, 1, no),
                (x, no) -> x.arePossible(0, no, 1, 12), (x, no) -> x.arePossible(0, 12, 1, no),
                (x, no) -> x.appendInput((char) no)};
            for (Numbered call : ofHeights) {
                refusesAll(NO_ARGUMENT, scene, new int[] {-1, 141}, call);
            }
        }
        refused(NO_STATE, Scenes.FULL, x -> x.appendInput('p'));
        refused(NO_STATE, Scenes.NOTHING, LintelBrothers::undo);
        refused(NO_STATE, QUIET, LintelBrothers::restoreSnapshot);
        refused(NO_ELEMENT, QUIET, LintelBrothers::rejectionReason);
        refused(NO_ELEMENT, QUIET, LintelBrothers::rejectionDetail);
        refused(NO_ELEMENT, QUIET, LintelBrothers::causeReason);
        refused(NO_ELEMENT, QUIET, LintelBrothers::syntaxErrorOffset);
        refused(NO_ELEMENT, Scenes.TORN, LintelBrothers::wouldChange);
        refused(NO_ELEMENT, Scenes.TORN, LintelBrothers::peaceSum);
        refused(ArithmeticException.class, Scenes.NOTHING, LintelBrothers::meanWidth);
        refused(ArithmeticException.class, Scenes.NOTHING, LintelBrothers::fixedShare);
        commandsFail(NO_ARGUMENT, Scenes.some("pass;door 1-2;x"), Facts.SYNTAX_ERROR);
        commandsFail(NO_STATE, Scenes.some("frame 0 1-2;drop 0;pass;door 1-2;drop 0"), "");
    }

    private void commandsFail(Class<? extends RuntimeException> due, Scene scene, String different) {
        throwing(due, () -> scene.make().execute());
        leaves(scene, LintelBrothers::execute, Facts.INPUT, Facts.INPUT_LENGTH, different);
    }

    private void firstListed() {
        refused(NO_ARGUMENT, Scenes.FULL, x -> x.addDoor(3, 2));
        refused(NO_INDEX, Scenes.SOME, x -> x.setFrame(3, 41, 0));
        refused(NO_INDEX, Scenes.SOME, x -> x.narrow(-1, 1, 0));
        refused(NO_ARGUMENT, Scenes.SOME, x -> x.narrow(0, 2, 1));
        refused(NO_INDEX, Scenes.FULL, x -> x.addConstraint('>', 0, 6, 21));
        refused(NO_INDEX, Scenes.SOME, x -> x.addConstraint('#', 3, 3, 0));
        refused(NO_ARGUMENT, Scenes.FULL, x -> x.addConstraint('<', 0, 1, 21));
        refused(NO_ARGUMENT, Scenes.FULL, x -> x.addConstraint('<', 1, 1, 1));
        refused(NO_INDEX, Scenes.TORN, x -> x.lowestHeight(2));
        refused(NO_INDEX, Scenes.TORN, x -> x.lowestHeightByPaths(2));
        refused(NO_INDEX, Scenes.TORN, x -> x.peaceHeight(2));
        refused(NO_INDEX, Scenes.SOME, x -> x.arePossible(0, 41, 3, -1));
        refused(NO_INDEX, Scenes.SOME, x -> x.arePossible(-1, -1, 0, 41));
        refused(NO_ARGUMENT, Scenes.FULL, x -> x.appendInput((char) 127));
        commandsFail(NO_ARGUMENT, Scenes.some("drop 1;narrow 2 1-2;"), Facts.SYNTAX_ERROR);
        commandsFail(NO_STATE, Scenes.some("drop 1;narrow 2 1-2"), "");
        commandsRejected(0, LintelBrothers.EMPTY, Scenes.some("narrow 2 1-2;drop 1"));
        commandsFail(NO_STATE, Scenes.full("door 2-1"), "");
        commandsFail(NO_STATE, Scenes.full("0<1+21"), "");
        commandsFail(NO_STATE, Scenes.some("narrow 2 2-1"), "");
    }

    // ---- further rules

    private void furtherRules() {
        holds("All steps of a constraint are made before it is decided whether there is a conflict, and a condition of "
                + "a step is about the bounds as they are at this step.", this::allStepsFirst);
        holds("The pass of settle that changes no bound counts for passCount, too.", () -> {
            LintelBrothers x = QUIET.make();
            same(1, x::settle);
            same(1, x::passCount);
            x.addConstraint('=', 0, 1, 15);
            same(2, x::settle);
            same(3, x::passCount);
            same(1, x::settle);
            same(4, x::passCount);
            same(1, () -> new LintelBrothers().settle());
        });
        holds("In a command, a character that is not a kind where a kind is needed is a syntax error.", () -> {
            for (char sign = 32; sign <= 126; sign++) {
                String input = "0" + sign + "1+20";
                boolean isKind = "<=#".indexOf(sign) >= 0;
                LintelBrothers x = Scenes.doors(0, 40, 0, 40);
                same(input, isKind ? 1 : "throws.IllegalArgumentException", () -> Scenes.run(x, input));
                same(input, isKind ? "throws.NoSuchElementException" : 1, x::syntaxErrorOffset);
                same(input, isKind ? 1 : 0, x::constraintCount);
            }
        });
        holds("lowestHeightByPaths throws its NoSuchElementException for any door if the height of one of the doors is "
                + "too great.", () -> {
            Scene scene = () -> {
                LintelBrothers x = Scenes.doors(5, 40, 0, 40, 0, 10, 7, 7);
                x.addConstraint('<', 0, 1, 2);
                x.addConstraint('<', 1, 2, 4);
                return x;
            };
            for (int door = 0; door < 4; door++) {
                int its = door;
                refused(NO_ELEMENT, scene, x -> x.lowestHeightByPaths(its));
                same(new int[] {5, 7, 11, 7}[door], () -> {
                    LintelBrothers x = scene.make();
                    x.setFrame(2, 0, 11);
                    return x.lowestHeightByPaths(its);
                });
            }
        });
    }

    /** Conflicts that only the last steps of a constraint bring, and bounds that its first steps bring. */
    private void allStepsFirst() {
        for (int[] bounds : new int[][] {{0, 5, 9, 40}, {5, 9, 0, 7}}) {
            Scene exact = () -> {
                LintelBrothers x = Scenes.doors(bounds);
                x.addConstraint('=', 0, 1, 3);
                return x;
            };
            rejected(LintelBrothers.CONFLICT, 0, exact, LintelBrothers::pass);
            rejected(LintelBrothers.CONFLICT, 0, exact, LintelBrothers::settle);
        }
        for (int[] bounds : new int[][] {{10, 10, 8, 12}, {8, 12, 10, 10}, {10, 10, 11, 11}, {10, 10, 10, 10}}) {
            Scene apart = () -> {
                LintelBrothers x = Scenes.doors(bounds);
                x.addConstraint('#', 0, 1, 3);
                return x;
            };
            rejected(LintelBrothers.CONFLICT, 0, apart, LintelBrothers::pass);
        }
        LintelBrothers fixedByFirstSteps = Scenes.doors(10, 10, 8, 13);
        fixedByFirstSteps.addConstraint('#', 0, 1, 3);
        same(1, fixedByFirstSteps::pass);
        same("10-10 13-13", () -> Look.allBounds(fixedByFirstSteps));
        LintelBrothers narrowedByFirstSteps = Scenes.doors(5, 30, 0, 20);
        narrowedByFirstSteps.addConstraint('=', 0, 1, 3);
        same(2, narrowedByFirstSteps::pass);
        same("5-17 8-20", () -> Look.allBounds(narrowedByFirstSteps));
    }

    // ---- the constants

    private void constants() {
        holds("The constants: `DOOR_LIMIT = 1`: Reason: there are 6 doors.", () -> {
            same(1, () -> LintelBrothers.DOOR_LIMIT);
            rejected(1, 6, Scenes.FULL, x -> x.addDoor(0, 40));
            same(5, () -> Scenes.doors(0, 1, 0, 1, 0, 1, 0, 1, 0, 1).addDoor(0, 40));
        });
        holds("The detail is 6.", () -> rejected(LintelBrothers.DOOR_LIMIT, 6, Scenes.FULL, x -> x.addDoor(40, 40)));
        holds("`CONSTRAINT_LIMIT = 2`: Reason: there are 10 constraints.", () -> {
            same(2, () -> LintelBrothers.CONSTRAINT_LIMIT);
            rejected(2, 1, Scenes.FULL, x -> x.addConstraint('#', 2, 5, 20));
            Scene nine = Scenes.FULL.then(x -> x.removeConstraint(11));
            same(12, () -> nine.make().addConstraint('#', 2, 5, 20));
        });
        holds("The detail is the lowest id of them.", () -> {
            Scene none = () -> Scenes.doors(0, 40, 0, 40);
            Scene full = none.then(x -> {
                for (int gap = 1; gap <= 10; gap++) {
                    x.addConstraint('#', 0, 1, gap);
                }
                return 0;
            });
            rejected(LintelBrothers.CONSTRAINT_LIMIT, 0, full, x -> x.addConstraint('<', 0, 1, 1));
            Scene later = full;
            for (int id = 0; id < 10; id++) {
                int lowest = id;
                later = later.then(x -> {
                    x.removeConstraint(lowest);
                    return x.addConstraint('#', 0, 1, lowest + 11);
                });
                rejected(LintelBrothers.CONSTRAINT_LIMIT, id + 1, later, x -> x.addConstraint('<', 0, 1, 1));
            }
            Scene inTheMiddle = full.then(x -> {
                x.removeConstraint(5);
                return x.addConstraint('#', 0, 1, 20);
            });
            rejected(LintelBrothers.CONSTRAINT_LIMIT, 0, inTheMiddle, x -> x.addConstraint('<', 0, 1, 1));
        });
        holds("`SAME_CONSTRAINT = 3`: Reason: there is a constraint of the same kind with the same first door, the "
                + "same second door and the same gap.", this::sameConstraint);
        holds("The detail is its id.", () -> {
            Scene nine = Scenes.FULL.then(x -> x.removeConstraint(8));
            rejected(LintelBrothers.SAME_CONSTRAINT, 1, nine, x -> x.addConstraint('<', 0, 1, 1));
            rejected(LintelBrothers.SAME_CONSTRAINT, 7, nine, x -> x.addConstraint('#', 0, 5, 2));
            rejected(LintelBrothers.SAME_CONSTRAINT, 9, nine, x -> x.addConstraint('=', 0, 1, 1));
            rejected(LintelBrothers.SAME_CONSTRAINT, 10, nine, x -> x.addConstraint('=', 2, 3, 1));
            rejected(LintelBrothers.SAME_CONSTRAINT, 11, nine, x -> x.addConstraint('<', 0, 4, 0));
        });
        emptyAndConflict();
        commandRejected();
    }

    private void sameConstraint() {
        same(3, () -> LintelBrothers.SAME_CONSTRAINT);
        Scene scene = () -> {
            LintelBrothers x = Scenes.doors(0, 40, 0, 40, 0, 40);
            x.addConstraint('#', 0, 1, 4);
            return x;
        };
        rejected(3, 0, scene, x -> x.addConstraint('#', 0, 1, 4));
        same("another kind", 1, () -> scene.make().addConstraint('<', 0, 1, 4));
        same("another kind", 1, () -> scene.make().addConstraint('=', 0, 1, 4));
        same("another first door", 1, () -> scene.make().addConstraint('#', 2, 1, 4));
        same("another second door", 1, () -> scene.make().addConstraint('#', 0, 2, 4));
        same("doors exchanged", 1, () -> scene.make().addConstraint('#', 1, 0, 4));
        same("another gap", 1, () -> scene.make().addConstraint('#', 0, 1, 5));
        Scene removed = scene.then(x -> x.removeConstraint(0));
        same("a removed one", 1, () -> removed.make().addConstraint('#', 0, 1, 4));
    }

    private void emptyAndConflict() {
        holds("`EMPTY = 4`: Reason: no height is within the bounds and in the range.", () -> {
            same(4, () -> LintelBrothers.EMPTY);
            Scene scene = () -> Scenes.narrowed(10, 20);
            rejected(4, 10, scene, x -> x.narrow(0, 21, 40));
            rejected(4, 10, scene, x -> x.narrow(0, 0, 9));
            rejected(4, 10, scene, x -> x.narrow(0, 9, 9));
            rejected(4, 10, scene, x -> x.narrow(0, 21, 21));
            same(1, () -> scene.make().narrow(0, 20, 40));
            same(1, () -> scene.make().narrow(0, 0, 10));
            same(0, () -> scene.make().narrow(0, 0, 40));
        });
        holds("The detail is the low bound.", () -> {
            rejected(LintelBrothers.EMPTY, 12, Scenes.SOME, x -> x.narrow(0, 30, 40));
            rejected(LintelBrothers.EMPTY, 7, Scenes.SOME, x -> x.narrow(2, 0, 6));
            rejected(LintelBrothers.EMPTY, 0, () -> Scenes.doors(0, 3), x -> x.narrow(0, 4, 5));
            rejected(LintelBrothers.EMPTY, 40, () -> Scenes.doors(40, 40), x -> x.narrow(0, 0, 39));
        });
        holds("`CONFLICT = 5`: Reason: there is a conflict in a pass.", () -> {
            same(5, () -> LintelBrothers.CONFLICT);
            rejected(5, 1, Scenes.TORN, LintelBrothers::pass);
            rejected(5, 1, Scenes.TORN, LintelBrothers::settle);
        });
        holds("The detail is the id of its constraint.", () -> {
            Scene second = Scenes.TORN.then(x -> x.addConstraint('=', 1, 0, 20));
            rejected(LintelBrothers.CONFLICT, 1, second, LintelBrothers::pass);
            Scene later = second.then(x -> x.removeConstraint(1));
            rejected(LintelBrothers.CONFLICT, 2, later, LintelBrothers::pass);
            rejected(LintelBrothers.CONFLICT, 2, later, LintelBrothers::settle);
            Scene tenth = Scenes.FULL.then(x -> {
                x.removeConstraint(1);
                x.narrow(2, 3, 10);
                return x.addConstraint('<', 5, 2, 20);
            });
            rejected(LintelBrothers.CONFLICT, 12, tenth, LintelBrothers::pass);
        });
    }

    private void commandRejected() {
        holds("`COMMAND_REJECTED = 6`: Reason: a command is rejected.", () -> {
            same(6, () -> LintelBrothers.COMMAND_REJECTED);
            commandsRejected(0, LintelBrothers.EMPTY, Scenes.some("narrow 2 8-9"));
        });
        holds("The detail is the number of the command, from 0.", () -> {
            StringBuilder ahead = new StringBuilder();
            for (int number = 0; number < 10; number++) {
                commandsRejected(number, LintelBrothers.CONFLICT, Scenes.typed(Scenes.TORN, ahead + "pass"));
                ahead.append("reset;");
            }
            Scene open = () -> Scenes.doors(5, 9, 0, 7);
            commandsRejected(11, LintelBrothers.CONFLICT,
                    Scenes.typed(open, "pass;pass;pass;pass;pass;pass;pass;pass;pass;pass;0<1+3;pass"));
            commandsRejected(10, LintelBrothers.DOOR_LIMIT, Scenes.FULL);
        });
        holds("The reason for which the method of this command rejects it is the cause.", () -> {
            commandsRejected(1, LintelBrothers.DOOR_LIMIT, Scenes.full("pass;door 1-2"));
            commandsRejected(0, LintelBrothers.CONSTRAINT_LIMIT, Scenes.full("5#0+1;reset"));
            commandsRejected(2, LintelBrothers.SAME_CONSTRAINT, Scenes.some("drop 0;0#2+4;0#2+4"));
            commandsRejected(1, LintelBrothers.EMPTY, Scenes.some("frame 0 1-2;narrow 0 3-4"));
            commandsRejected(0, LintelBrothers.CONFLICT, Scenes.typed(Scenes.TORN, "pass"));
            commandsRejected(2, LintelBrothers.CONFLICT, Scenes.typed(Scenes.TORN, "reset;reset;settle"));
        });
    }
}
