import java.util.NoSuchElementException;

/** Promises 50 to 55: rejections, undo and the snapshot. */
public final class HistoryTests {
    private static final Check CHECK = new Check("HistoryTests");

    public static void main(String[] args) {
        noRejection();
        latestRejection();
        undoEachChange();
        undoRemovals();
        undoLimit();
        undoAfterRejections();
        undoLeaves();
        snapshot();
        snapshotAndUndo();
        CHECK.end();
    }

    private static void noRejection() {
        LintelBrothers x = new LintelBrothers();
        x.addDoor(5, 10);
        x.setFrame(0, 6, 9);
        CHECK.refused("50 none", NoSuchElementException.class, x, x::rejectionReason);
        CHECK.refused("51 none", NoSuchElementException.class, x, x::rejectionDetail);
        CHECK.refused("52 none", NoSuchElementException.class, x, x::causeReason);
    }

    private static void latestRejection() {
        LintelBrothers x = new LintelBrothers();
        x.addDoor(5, 10);
        x.addDoor(0, 10);
        CHECK.rejected("50 EMPTY", LintelBrothers.EMPTY, 5, x, () -> x.narrow(0, 0, 4));
        CHECK.refused("52 no command", NoSuchElementException.class, x, x::causeReason);
        x.addConstraint('<', 0, 1, 9);
        CHECK.rejected("50 CONFLICT", LintelBrothers.CONFLICT, 0, x, x::pass);
        for (char sign : "pass;settle".toCharArray()) {
            x.appendInput(sign);
        }
        CHECK.rejected("50 COMMAND_REJECTED", LintelBrothers.COMMAND_REJECTED, 0, x, x::execute);
        CHECK.same("52 causeReason", LintelBrothers.CONFLICT, x::causeReason);
        CHECK.same("53 undo", 2, x::undo);
        CHECK.same("50 no undo covers it", LintelBrothers.COMMAND_REJECTED, x::rejectionReason);
        CHECK.same("52 no undo covers it", LintelBrothers.CONFLICT, x::causeReason);
        CHECK.same("24 a pass", 0, x::pass);
        CHECK.same("50 no success covers it", LintelBrothers.COMMAND_REJECTED, x::rejectionReason);
        CHECK.same("15 no constraint", "throws.NoSuchElementException", () -> x.removeConstraint(0));
        CHECK.same("50 no other exception covers it", LintelBrothers.COMMAND_REJECTED, x::rejectionReason);
        CHECK.rejected("50 EMPTY again", LintelBrothers.EMPTY, 5, x, () -> x.narrow(0, 0, 4));
        CHECK.refused("52 no command any more", NoSuchElementException.class, x, x::causeReason);
    }

    /** Makes a change, and looks whether undo brings back all that was there before. */
    private static void undone(String what, LintelBrothers x, Check.Call change) {
        String before = Look.at(x);
        change.make();
        x.undo();
        CHECK.same("53 undone " + what, before, () -> Look.at(x));
        change.make();
    }

    private static void undoEachChange() {
        LintelBrothers x = new LintelBrothers();
        CHECK.refused("53 none", IllegalStateException.class, x, x::undo);
        undone("addDoor", x, () -> x.addDoor(0, 40));
        undone("addDoor", x, () -> x.addDoor(0, 40));
        undone("setFrame", x, () -> x.setFrame(0, 10, 30));
        undone("narrow", x, () -> x.narrow(0, 12, 29));
        undone("addConstraint", x, () -> x.addConstraint('<', 0, 1, 5));
        undone("addConstraint", x, () -> x.addConstraint('=', 0, 1, 6));
        undone("pass", x, x::pass);
        undone("reset", x, x::reset);
        undone("settle", x, x::settle);
        undone("removeConstraint", x, () -> x.removeConstraint(0));
        x.appendInput('p');
        x.appendInput('a');
        x.appendInput('s');
        undone("execute", x, () -> {
            x.appendInput('s');
            Object answer = x.execute();
            x.appendInput('p');
            x.appendInput('a');
            x.appendInput('s');
            return answer;
        });
        CHECK.same("53 seven are left", 7, x::undo);
        undone("a change without a difference", x, () -> x.narrow(1, 0, 40));
    }

    /** Removes constraints from front to back, so that rows move, and brings them back. */
    private static void undoRemovals() {
        LintelBrothers x = new LintelBrothers();
        for (int door = 0; door < 6; door++) {
            x.addDoor(door, 40 - door);
        }
        x.addConstraint('<', 0, 1, 1);
        x.addConstraint('=', 2, 3, 2);
        x.addConstraint('#', 4, 5, 3);
        x.saveSnapshot();
        String all = Look.at(x);
        undone("removeConstraint, the first", x, () -> x.removeConstraint(0));
        undone("removeConstraint, the next", x, () -> x.removeConstraint(1));
        undone("removeConstraint, the last", x, () -> x.removeConstraint(2));
        x.addConstraint('=', 5, 0, 7);
        for (int change = 0; change < 4; change++) {
            x.undo();
        }
        CHECK.same("53 all removals undone", all, () -> Look.at(x));
        x.removeConstraint(0);
        x.restoreSnapshot();
        CHECK.same("55 a removal", all, () -> Look.at(x));
    }

    private static void undoLimit() {
        LintelBrothers x = new LintelBrothers();
        x.addDoor(0, 40);
        for (int low = 1; low <= 20; low++) {
            x.narrow(0, low, 40);
        }
        for (int left = 7; left >= 0; left--) {
            CHECK.same("53 undo", left, x::undo);
            int low = 12 + left;
            CHECK.same("53 lowOf", low, () -> x.lowOf(0));
        }
        CHECK.refused("53 no more than eight", IllegalStateException.class, x, x::undo);
        x.reset();
        x.reset();
        x.undo();
        x.narrow(0, 3, 40);
        CHECK.same("53 after a new change", 1, x::undo);
        CHECK.same("53 after a new change", 0, x::undo);
        CHECK.same("53 the oldest that was kept", 12, () -> x.lowOf(0));
        CHECK.refused("53 none again", IllegalStateException.class, x, x::undo);
    }

    private static void undoAfterRejections() {
        LintelBrothers x = new LintelBrothers();
        for (int door = 0; door < 6; door++) {
            x.addDoor(5, 6 + door);
        }
        x.addConstraint('<', 5, 0, 5);
        x.addConstraint('<', 0, 5, 1);
        CHECK.same("2 rejected", "throws.UnsupportedOperationException", () -> x.addDoor(0, 1));
        CHECK.same("4 rejected", "throws.UnsupportedOperationException", () -> x.narrow(0, 0, 1));
        CHECK.same("14 rejected", "throws.UnsupportedOperationException", () -> x.addConstraint('<', 0, 5, 1));
        CHECK.same("24 rejected", "throws.UnsupportedOperationException", x::pass);
        CHECK.same("25 rejected", "throws.UnsupportedOperationException", x::settle);
        CHECK.same("3 refused", "throws.IllegalArgumentException", () -> x.setFrame(0, 2, 1));
        CHECK.same("15 refused", "throws.NoSuchElementException", () -> x.removeConstraint(2));
        CHECK.same("53 none of them is a change", 7, x::undo);
        CHECK.same("53 the constraint", 1, x::constraintCount);
        for (int left = 6; left >= 0; left--) {
            CHECK.same("53 undo", left, x::undo);
        }
        CHECK.same("53 the first door", 0, x::doorCount);
    }

    private static void undoLeaves() {
        LintelBrothers x = new LintelBrothers();
        x.addDoor(5, 6);
        x.writeDoor(0);
        x.appendInput('x');
        x.reset();
        CHECK.same("48 a syntax error", "throws.IllegalArgumentException", x::execute);
        x.appendInput('y');
        CHECK.same("4 rejected", "throws.UnsupportedOperationException", () -> x.narrow(0, 0, 1));
        x.undo();
        x.undo();
        CHECK.same("46 the output", "0[5..6]", () -> Look.output(x));
        CHECK.same("49 the syntax error", 0, x::syntaxErrorOffset);
        CHECK.same("51 the rejection", 5, x::rejectionDetail);
        CHECK.same("47 the input", 2, () -> x.appendInput('y'));
    }

    private static void snapshot() {
        LintelBrothers x = new LintelBrothers();
        CHECK.refused("55 none", IllegalStateException.class, x, x::restoreSnapshot);
        CHECK.same("54 no doors", 0, x::saveSnapshot);
        x.addDoor(0, 40);
        x.addDoor(5, 30);
        x.addConstraint('<', 0, 1, 9);
        x.pass();
        CHECK.same("54 in place of the earlier", 2, x::saveSnapshot);
        String saved = Look.at(x);
        x.addConstraint('#', 0, 1, 9);
        x.setFrame(0, 8, 9);
        x.settle();
        x.addDoor(1, 2);
        x.removeConstraint(0);
        CHECK.same("55 restoreSnapshot", 2, x::restoreSnapshot);
        CHECK.same("55 all is back", saved, () -> Look.at(x));
        CHECK.refused("55 nothing to undo", IllegalStateException.class, x, x::undo);
        CHECK.same("55 the id is back", 1, () -> x.addConstraint('#', 0, 1, 8));
        x.addDoor(3, 4);
        CHECK.same("55 it is kept", 2, x::restoreSnapshot);
        CHECK.same("55 all is back again", saved, () -> Look.at(x));
    }

    private static void snapshotAndUndo() {
        LintelBrothers x = new LintelBrothers();
        x.addDoor(0, 40);
        x.addDoor(0, 40);
        CHECK.same("54 saveSnapshot", 2, x::saveSnapshot);
        CHECK.same("54 is no change", 1, x::undo);
        CHECK.same("54 and keeps the others", 0, x::undo);
        CHECK.same("55 undo leaves the snapshot", 2, x::restoreSnapshot);
        x.writeDoor(1);
        x.addDoor(2, 3);
        CHECK.same("4 rejected", "throws.UnsupportedOperationException", () -> x.narrow(2, 4, 5));
        CHECK.same("48 a syntax error", "throws.IllegalArgumentException", x::execute);
        x.appendInput('p');
        x.restoreSnapshot();
        CHECK.same("55 the output stays", "1[0..40]", () -> Look.output(x));
        CHECK.same("55 the rejection stays", LintelBrothers.EMPTY, x::rejectionReason);
        CHECK.same("55 the syntax error stays", 0, x::syntaxErrorOffset);
        CHECK.same("55 the input stays", 2, () -> x.appendInput('p'));
        CHECK.refused("55 no change", IllegalStateException.class, x, x::undo);
    }
}
