import java.util.NoSuchElementException;

/** Promises 50 to 55: rejections, undo and the snapshot. */
final class HistoryChapter extends Chapter {
    private static final Class<NoSuchElementException> NONE = NoSuchElementException.class;
    private static final Class<IllegalStateException> NOTHING_THERE = IllegalStateException.class;

    /** Two doors and a constraint that can't hold; nothing was rejected yet. */
    private static final Scene UNREJECTED = () -> {
        LintelBrothers x = Scenes.doors(5, 9, 0, 7);
        x.addConstraint('<', 0, 1, 3);
        x.setFrame(1, 1, 7);
        Check.answer(() -> x.addDoor(2, 1));
        Check.answer(() -> x.removeConstraint(9));
        Check.answer(() -> Scenes.run(x, "drop 9"));
        Check.answer(() -> Scenes.run(x, "pass."));
        Check.answer(x::restoreSnapshot);
        Check.answer(x::wouldChange);
        return x;
    };

    HistoryChapter(Sentences sentences) {
        super(sentences);
    }

    @Override
    void tell() {
        promise(50);
        rejectionReason();
        promise(51);
        rejectionDetail();
        promise(52);
        causeReason();
        promise(53);
        undo();
        promise(54);
        saveSnapshot();
        promise(55);
        restoreSnapshot();
    }

    // ---- promises 50 to 52

    /** Calls that throw another exception, succeed, or only ask; the latest rejection stays. */
    private static final Scene.Deed OTHERS = x -> {
        Check.answer(() -> x.addDoor(2, 1));
        Check.answer(() -> x.narrow(0, 9, 8));
        Check.answer(() -> x.addConstraint('<', 0, 0, 3));
        Check.answer(() -> Scenes.run(x, "drop 9"));
        Check.answer(() -> Scenes.run(x, "narrow 0 1-2;"));
        Check.answer(x::wouldChange);
        x.reset();
        x.narrow(0, 0, 40);
        Scenes.run(x, "reset");
        x.isSettled();
        x.hasPeace();
        x.undo();
        x.saveSnapshot();
        return x.restoreSnapshot();
    };

    private void rejectionReason() {
        holds("Returns the reason of the latest rejection.", () -> {
            Scene scene = UNREJECTED;
            Scene.Deed[] calls = {x -> x.pass(), x -> x.narrow(0, 1, 2), x -> x.addConstraint('<', 0, 1, 3),
                x -> Scenes.run(x, "reset;pass"), x -> x.settle()};
            int[] due = {5, 4, 3, 6, 5};
            for (int at = 0; at < calls.length; at++) {
                scene = scene.then(calls[at]);
                Scene rejected = scene;
                same(due[at], () -> rejected.make().rejectionReason());
                same("other calls leave it", due[at], () -> rejected.then(OTHERS).make().rejectionReason());
            }
            leaves(Scenes.SOME, LintelBrothers::rejectionReason);
        });
        holds("Returns the reason, one of the constants.", () -> {
            same(LintelBrothers.DOOR_LIMIT, () -> Scenes.FULL.then(x -> x.addDoor(0, 1)).make().rejectionReason());
            same(LintelBrothers.CONSTRAINT_LIMIT,
                    () -> Scenes.FULL.then(x -> x.addConstraint('<', 2, 0, 1)).make().rejectionReason());
            same(LintelBrothers.SAME_CONSTRAINT,
                    () -> Scenes.SOME.then(x -> x.addConstraint('#', 0, 2, 4)).make().rejectionReason());
            same(LintelBrothers.EMPTY, () -> Scenes.SOME.make().rejectionReason());
            same(LintelBrothers.CONFLICT, () -> Scenes.TORN.then(LintelBrothers::pass).make().rejectionReason());
            same(LintelBrothers.CONFLICT, () -> Scenes.TORN.then(LintelBrothers::settle).make().rejectionReason());
            same(LintelBrothers.COMMAND_REJECTED, () -> Scenes.FULL.make().rejectionReason());
        });
        holds("Throws `NoSuchElementException` if no call was rejected", () -> {
            refused(NONE, Scenes.NOTHING, LintelBrothers::rejectionReason);
            refused(NONE, UNREJECTED, LintelBrothers::rejectionReason);
        });
    }

    private void rejectionDetail() {
        holds("Returns the detail of the latest rejection.", () -> {
            Scene scene = UNREJECTED;
            Scene.Deed[] calls = {x -> x.narrow(0, 1, 2), x -> x.pass(), x -> Scenes.run(x, "reset;reset;pass"),
                x -> x.addConstraint('<', 0, 1, 3), x -> x.narrow(1, 0, 0)};
            int[] due = {5, 0, 2, 0, 1};
            for (int at = 0; at < calls.length; at++) {
                scene = scene.then(calls[at]);
                Scene rejected = scene;
                same(due[at], () -> rejected.make().rejectionDetail());
                same("other calls leave it", due[at], () -> rejected.then(OTHERS).make().rejectionDetail());
            }
            leaves(Scenes.SOME, LintelBrothers::rejectionDetail);
        });
        holds("Returns the detail.", () -> {
            same(6, () -> Scenes.FULL.then(x -> x.addDoor(0, 1)).make().rejectionDetail());
            same(1, () -> Scenes.FULL.then(x -> x.addConstraint('<', 2, 0, 1)).make().rejectionDetail());
            same(2, () -> Scenes.SOME.then(x -> x.addConstraint('=', 2, 1, 5)).make().rejectionDetail());
            same(7, () -> Scenes.SOME.make().rejectionDetail());
            same(12, () -> Scenes.SOME.then(x -> x.narrow(0, 0, 11)).make().rejectionDetail());
            same(1, () -> Scenes.TORN.then(LintelBrothers::pass).make().rejectionDetail());
            same(1, () -> Scenes.FULL.make().rejectionDetail());
            same(10, () -> Scenes.FULL.then(LintelBrothers::execute).make().rejectionDetail());
        });
        holds("Throws `NoSuchElementException` if no call was rejected", () -> {
            refused(NONE, Scenes.NOTHING, LintelBrothers::rejectionDetail);
            refused(NONE, UNREJECTED, LintelBrothers::rejectionDetail);
        });
    }

    private void causeReason() {
        holds("Returns the reason of the command that caused the latest rejection.", () -> {
            Scene scene = UNREJECTED;
            String[] inputs = {"narrow 0 1-2", "reset;pass", "door 1-2;0<1+3;pass", "settle"};
            int[] due = {4, 5, 3, 5};
            for (int at = 0; at < inputs.length; at++) {
                String input = inputs[at];
                scene = scene.then(x -> Scenes.run(x, input));
                Scene rejected = scene;
                same(input, due[at], () -> rejected.make().causeReason());
                same("other calls leave it", due[at], () -> rejected.then(OTHERS).make().causeReason());
            }
            leaves(Scenes.FULL, LintelBrothers::causeReason);
        });
        holds("Returns the reason, one of the constants.", () -> {
            same(LintelBrothers.DOOR_LIMIT, () -> Scenes.FULL.make().causeReason());
            Scene limit = Scenes.full("3#0+5").then(LintelBrothers::execute);
            same(LintelBrothers.CONSTRAINT_LIMIT, () -> limit.make().causeReason());
            Scene empty = Scenes.full("narrow 2 0-1").then(LintelBrothers::execute);
            same(LintelBrothers.EMPTY, () -> empty.make().causeReason());
            Scene same = UNREJECTED.then(x -> Scenes.run(x, "0<1+3"));
            same(LintelBrothers.SAME_CONSTRAINT, () -> same.make().causeReason());
            Scene conflict = UNREJECTED.then(x -> Scenes.run(x, "settle"));
            same(LintelBrothers.CONFLICT, () -> conflict.make().causeReason());
        });
        holds("Throws `NoSuchElementException` if no call was rejected, or the latest rejection has another reason "
                + "than COMMAND_REJECTED", () -> {
            refused(NONE, Scenes.NOTHING, LintelBrothers::causeReason);
            refused(NONE, UNREJECTED, LintelBrothers::causeReason);
            refused(NONE, Scenes.SOME, LintelBrothers::causeReason);
            refused(NONE, Scenes.FULL.then(x -> x.addDoor(0, 1)), LintelBrothers::causeReason);
            refused(NONE, Scenes.FULL.then(x -> x.addConstraint('<', 2, 0, 1)), LintelBrothers::causeReason);
            refused(NONE, Scenes.SOME.then(x -> x.addConstraint('#', 0, 2, 4)), LintelBrothers::causeReason);
            refused(NONE, Scenes.FULL.then(x -> x.narrow(2, 0, 1)), LintelBrothers::causeReason);
            Scene command = UNREJECTED.then(x -> Scenes.run(x, "pass"));
            refused(NONE, command.then(LintelBrothers::pass), LintelBrothers::causeReason);
            refused(NONE, command.then(LintelBrothers::settle), LintelBrothers::causeReason);
            same(LintelBrothers.CONFLICT, () -> command.make().causeReason());
        });
    }

    // ---- promise 53

    private void undo() {
        holds("Undoes the latest change that has not been undone.", () -> {
            LintelBrothers x = Scenes.doors(0, 40);
            x.narrow(0, 1, 40);
            x.setFrame(0, 2, 40);
            x.narrow(0, 3, 40);
            x.undo();
            same("2-40", () -> Look.allBounds(x));
            x.undo();
            same("the one ahead of it", "1-40", () -> Look.allBounds(x));
            x.narrow(0, 7, 40);
            x.undo();
            same("a new one", "1-40", () -> Look.allBounds(x));
            x.undo();
            same("0-40", () -> Look.allBounds(x));
            x.undo();
            same(0, x::doorCount);
            for (Scene.Deed change : new Scene.Deed[] {y -> y.removeConstraint(0), y -> y.removeConstraint(2),
                y -> y.setFrame(1, 3, 4), y -> y.addDoor(0, 1), y -> y.pass(), y -> y.settle(), y -> y.reset(),
                y -> y.addConstraint('<', 2, 1, 1), y -> y.narrow(0, 20, 20)}) {
                leaves(Scenes.SOME, y -> {
                    change.on(y);
                    return y.undo();
                });
            }
            Scene undone = Scenes.some("pass;drop 0;door 1-2").then(LintelBrothers::execute).then(LintelBrothers::undo);
            same("all commands at once", Look.data(Scenes.SOME.make()), () -> Look.data(undone.make()));
            same(2, () -> undone.make().undo());
            Scene passed = UNREJECTED.then(y -> y.setFrame(1, 0, 40)).then(LintelBrothers::pass);
            same(1, () -> passed.make().changeCount());
            same("the counts of passes", "5-9 in 5-9, 0-40 in 0-40, 0:0<1+3, passes 0, changes 0",
                    () -> Look.data(passed.then(LintelBrothers::undo).make()));
        });
        holds("Returns the number of changes that can still be undone.", () -> {
            LintelBrothers x = Scenes.SOME.make();
            for (int left = 2; left >= 0; left--) {
                same(left, x::undo);
            }
            LintelBrothers full = Scenes.FULL.make();
            for (int left = 7; left >= 0; left--) {
                same(left, full::undo);
            }
            for (int changes = 1; changes <= 20; changes++) {
                LintelBrothers some = new LintelBrothers();
                for (int change = 0; change < changes; change++) {
                    some.reset();
                }
                same(Math.min(changes, 8) - 1, some::undo);
                some.reset();
                same("a change after an undo", Math.min(changes, 8) - 1, some::undo);
            }
        });
        holds("Throws `IllegalStateException` if there is none", () -> {
            refused(NOTHING_THERE, Scenes.NOTHING, LintelBrothers::undo);
            refused(NOTHING_THERE, Scenes.TORN.then(x -> {
                x.saveSnapshot();
                return x.restoreSnapshot();
            }), LintelBrothers::undo);
            for (Scene scene : new Scene[] {Scenes.SOME, Scenes.FULL}) {
                refused(NOTHING_THERE, scene.then(x -> {
                    for (int undo = 0; undo < 8; undo++) {
                        x.undo();
                    }
                    return 0;
                }), LintelBrothers::undo);
            }
            refused(NOTHING_THERE, Scenes.NOTHING.then(x -> x.addDoor(1, 0)), LintelBrothers::undo);
            refused(NOTHING_THERE, Scenes.NOTHING.then(x -> Scenes.run(x, "door 1-2;door 2-1")), LintelBrothers::undo);
        });
    }

    // ---- promises 54 and 55

    /** Changes of all that the snapshot covers. */
    private static final Scene.Deed MANY = x -> {
        x.addDoor(3, 4);
        x.removeConstraint(2);
        x.addConstraint('<', 2, 1, 4);
        x.setFrame(0, 4, 31);
        x.narrow(1, 9, 19);
        return x.settle();
    };

    private void saveSnapshot() {
        holds("Saves a snapshot of the data, in place of an earlier snapshot.", () -> {
            Scene saved = Scenes.SOME.then(LintelBrothers::saveSnapshot);
            same(Look.data(Scenes.SOME.make()),
                    () -> Look.data(saved.then(MANY).then(LintelBrothers::restoreSnapshot).make()));
            Scene again = saved.then(MANY).then(LintelBrothers::saveSnapshot);
            Scene restored = again.then(LintelBrothers::reset).then(x -> x.addDoor(5, 6))
                    .then(LintelBrothers::restoreSnapshot);
            same(Look.data(Scenes.SOME.then(MANY).make()), () -> Look.data(restored.make()));
            same("the next id", "4", () -> Facts.nextId(restored.make()));
            leaves(Scenes.SOME, LintelBrothers::saveSnapshot, Facts.SNAPSHOT);
            leaves(Scenes.FULL, LintelBrothers::saveSnapshot, Facts.SNAPSHOT);
            Scene undone = Scenes.SOME.then(LintelBrothers::undo).then(LintelBrothers::saveSnapshot);
            same("after an undo", Look.data(Scenes.SOME.then(LintelBrothers::undo).make()),
                    () -> Look.data(undone.then(MANY).then(LintelBrothers::restoreSnapshot).make()));
        });
        holds("Returns the number of doors.", () -> {
            same(0, () -> new LintelBrothers().saveSnapshot());
            same(3, () -> Scenes.SOME.make().saveSnapshot());
            same(6, () -> Scenes.FULL.make().saveSnapshot());
            LintelBrothers x = new LintelBrothers();
            for (int doors = 1; doors <= 6; doors++) {
                x.addDoor(0, 40);
                same(doors, x::saveSnapshot);
            }
        });
    }

    private void restoreSnapshot() {
        holds("Restores the snapshot, which is kept.", () -> {
            Scene saved = Scenes.FULL.then(LintelBrothers::saveSnapshot);
            String data = Look.data(saved.make());
            LintelBrothers x = saved.make();
            for (int id : new int[] {1, 11, 6}) {
                x.removeConstraint(id);
                x.setFrame(2, 0, 40);
                x.pass();
                x.restoreSnapshot();
                same("after constraint " + id + " was removed", data, () -> Look.data(x));
            }
            x.removeConstraint(1);
            same("the next id", 12, () -> x.addConstraint('<', 0, 1, 7));
            x.restoreSnapshot();
            x.removeConstraint(1);
            same("the next id again", 12, () -> x.addConstraint('<', 0, 1, 7));
            LintelBrothers empty = new LintelBrothers();
            empty.saveSnapshot();
            empty.addDoor(1, 2);
            empty.restoreSnapshot();
            same("a snapshot without doors", 0, empty::doorCount);
            String[] different = new String[12];
            different[0] = Facts.DATA;
            different[1] = Facts.ANSWERS;
            different[2] = Facts.INPUT;
            for (int times = 1; times <= Facts.MORE_THAN_CAN_BE_UNDONE; times++) {
                different[times + 2] = Facts.undoneTimes(times);
            }
            leaves(Scenes.SOME, LintelBrothers::restoreSnapshot, different);
        });
        holds("No change can be undone after the call.", () -> {
            for (Scene scene : new Scene[] {Scenes.SOME, Scenes.FULL}) {
                refused(NOTHING_THERE, scene.then(LintelBrothers::restoreSnapshot), LintelBrothers::undo);
                Scene changed = scene.then(LintelBrothers::restoreSnapshot).then(LintelBrothers::reset);
                same("but one that follows", 0, () -> changed.make().undo());
                refused(NOTHING_THERE, changed.then(LintelBrothers::undo), LintelBrothers::undo);
            }
            LintelBrothers x = Scenes.doors(0, 40);
            x.saveSnapshot();
            x.restoreSnapshot();
            for (int low = 1; low <= 9; low++) {
                x.narrow(0, low, 40);
            }
            for (int left = 7; left >= 0; left--) {
                same(left, x::undo);
            }
            same("1-40", () -> Look.allBounds(x));
            throwing(NOTHING_THERE, x::undo);
        });
        holds("Returns the number of doors.", () -> {
            same(3, () -> Scenes.SOME.then(x -> x.addDoor(1, 2)).make().restoreSnapshot());
            same(5, () -> Scenes.FULL.make().restoreSnapshot());
            LintelBrothers x = new LintelBrothers();
            x.saveSnapshot();
            x.addDoor(0, 40);
            same(0, x::restoreSnapshot);
            same(6, () -> Scenes.FULL.then(LintelBrothers::saveSnapshot).make().restoreSnapshot());
        });
        holds("Throws `IllegalStateException` if there is no snapshot", () -> {
            refused(NOTHING_THERE, Scenes.NOTHING, LintelBrothers::restoreSnapshot);
            refused(NOTHING_THERE, Scenes.TORN, LintelBrothers::restoreSnapshot);
            refused(NOTHING_THERE, UNREJECTED, LintelBrothers::restoreSnapshot);
            same(0, () -> Scenes.NOTHING.then(LintelBrothers::saveSnapshot).make().restoreSnapshot());
        });
    }
}
