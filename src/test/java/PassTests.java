import java.util.NoSuchElementException;

/** Promises 24 to 31: passes. */
public final class PassTests {
    private static final Check CHECK = new Check("PassTests");

    public static void main(String[] args) {
        lower();
        exact();
        apart();
        apartConflicts();
        order();
        settle();
        settleWithApart();
        fullOfConstraints();
        settleConflict();
        longestSettle();
        lowestHeights();
        lowestHeightsWithoutApart();
        counts();
        noDoors();
        CHECK.end();
    }

    /** Doors with these bounds, as low and high ones by turns. */
    private static LintelBrothers doors(int... bounds) {
        LintelBrothers x = new LintelBrothers();
        for (int at = 0; at < bounds.length; at += 2) {
            x.addDoor(bounds[at], bounds[at + 1]);
        }
        return x;
    }

    private static void bounds(String what, LintelBrothers x, int door, int low, int high) {
        CHECK.same(what + ": low", low, () -> x.lowOf(door));
        CHECK.same(what + ": high", high, () -> x.highOf(door));
    }

    private static void lower() {
        LintelBrothers x = doors(5, 30, 0, 20);
        x.addConstraint('<', 0, 1, 3);
        CHECK.same("27 wouldChange", 2, x::wouldChange);
        CHECK.same("26 isSettled", false, x::isSettled);
        bounds("27 wouldChange changes nothing", x, 1, 0, 20);
        CHECK.same("30 wouldChange is no pass", 0, x::passCount);
        CHECK.same("24 pass", 2, x::pass);
        bounds("24 first", x, 0, 5, 17);
        bounds("24 second", x, 1, 8, 20);
        CHECK.same("27 wouldChange", 0, x::wouldChange);
        CHECK.same("26 isSettled", true, x::isSettled);
        CHECK.same("24 a pass without changes", 0, x::pass);
        CHECK.same("30 passCount", 2, x::passCount);
        CHECK.same("31 changeCount", 2, x::changeCount);
        LintelBrothers met = doors(5, 6, 9, 20);
        met.addConstraint('<', 0, 1, 3);
        CHECK.same("24 nothing to narrow", 0, met::pass);
        LintelBrothers edge = doors(5, 17, 8, 20);
        edge.addConstraint('<', 0, 1, 3);
        CHECK.same("24 just as narrow", 0, edge::pass);
    }

    private static void exact() {
        LintelBrothers x = doors(5, 30, 0, 20);
        x.addConstraint('=', 0, 1, 3);
        CHECK.same("24 low of second, high of first", 2, x::pass);
        bounds("24 first", x, 0, 5, 17);
        bounds("24 second", x, 1, 8, 20);
        LintelBrothers y = doors(0, 9, 10, 40);
        y.addConstraint('=', 0, 1, 3);
        CHECK.same("24 low of first, high of second", 2, y::pass);
        bounds("24 first", y, 0, 7, 9);
        bounds("24 second", y, 1, 10, 12);
        LintelBrothers z = doors(0, 40, 13, 13);
        z.addConstraint('=', 0, 1, 3);
        CHECK.same("24 to one height", 2, z::pass);
        bounds("24 one height", z, 0, 10, 10);
        CHECK.same("24 settled", 0, z::pass);
    }

    private static void apart() {
        LintelBrothers x = doors(10, 10, 8, 30);
        x.addConstraint('#', 0, 1, 3);
        CHECK.same("24 a low bound too near", 1, x::pass);
        bounds("24 second", x, 1, 13, 30);
        LintelBrothers y = doors(0, 12, 10, 10);
        y.addConstraint('#', 0, 1, 3);
        CHECK.same("24 a high bound too near, doors exchanged", 1, y::pass);
        bounds("24 first", y, 0, 0, 7);
        LintelBrothers edges = doors(10, 10, 7, 13);
        edges.addConstraint('#', 0, 1, 3);
        CHECK.same("24 bounds just far enough", 0, edges::pass);
        LintelBrothers above = doors(10, 10, 13, 20, 0, 7);
        above.addConstraint('#', 0, 1, 3);
        above.addConstraint('#', 2, 0, 3);
        CHECK.same("24 doors just far enough", 0, above::pass);
        LintelBrothers open = doors(10, 11, 8, 30);
        open.addConstraint('#', 0, 1, 3);
        CHECK.same("24 no door is fixed", 0, open::pass);
        LintelBrothers chain = doors(10, 10, 8, 13, 12, 40);
        chain.addConstraint('#', 0, 1, 3);
        chain.addConstraint('#', 2, 1, 4);
        CHECK.same("24 a door that becomes fixed", 2, chain::pass);
        bounds("24 it is fixed", chain, 1, 13, 13);
        bounds("24 it keeps another off", chain, 2, 17, 40);
        LintelBrothers both = doors(10, 10, 8, 30, 0, 0);
        both.addConstraint('#', 1, 0, 20);
        CHECK.same("24 low bound above", 1, both::pass);
        bounds("24 above", both, 1, 30, 30);
    }

    private static void apartConflicts() {
        LintelBrothers x = doors(10, 10, 8, 12);
        x.addConstraint('#', 0, 1, 3);
        CHECK.rejected("24 no height is left", LintelBrothers.CONFLICT, 0, x, x::pass);
        LintelBrothers y = doors(7, 7, 7, 7);
        y.addConstraint('#', 1, 0, 1);
        CHECK.rejected("24 the same height", LintelBrothers.CONFLICT, 0, y, y::pass);
        CHECK.same("26 not settled", false, y::isSettled);
        CHECK.refused("27 no answer", NoSuchElementException.class, y, y::wouldChange);
        LintelBrothers exchanged = doors(8, 12, 10, 10);
        exchanged.addConstraint('#', 0, 1, 3);
        CHECK.rejected("24 no height is left, doors exchanged", LintelBrothers.CONFLICT, 0, exchanged,
                exchanged::pass);
        CHECK.rejected("25 no height is left", LintelBrothers.CONFLICT, 0, exchanged, exchanged::settle);
        LintelBrothers z = doors(20, 20, 19, 40);
        z.addConstraint('#', 0, 1, 20);
        CHECK.same("24 the top", 1, z::pass);
        bounds("24 the top", z, 1, 40, 40);
    }

    private static void order() {
        LintelBrothers up = doors(1, 40, 0, 40, 0, 40);
        up.addConstraint('<', 0, 1, 1);
        up.addConstraint('<', 1, 2, 1);
        CHECK.same("24 in the order of ids, upwards", 4, up::pass);
        bounds("24 at once", up, 2, 3, 40);
        bounds("24 not yet", up, 0, 1, 39);
        CHECK.same("24 the next pass", 1, up::pass);
        bounds("24 now", up, 0, 1, 38);
        LintelBrothers conflict = doors(0, 10, 5, 10, 0, 3);
        conflict.addConstraint('<', 0, 1, 3);
        conflict.addConstraint('<', 1, 2, 0);
        conflict.addConstraint('<', 0, 2, 4);
        CHECK.rejected("24 the first constraint with a conflict", LintelBrothers.CONFLICT, 1, conflict,
                conflict::pass);
        CHECK.same("30 no pass", 0, conflict::passCount);
        CHECK.same("31 no change", 0, conflict::changeCount);
        conflict.removeConstraint(1);
        CHECK.rejected("24 the id, not the position", LintelBrothers.CONFLICT, 2, conflict, conflict::pass);
    }

    private static void settle() {
        LintelBrothers x = doors(0, 40, 0, 40, 0, 40);
        x.addConstraint('<', 1, 2, 5);
        x.addConstraint('<', 0, 1, 5);
        CHECK.same("25 settle", 3, x::settle);
        bounds("25 first", x, 0, 0, 30);
        bounds("25 second", x, 1, 5, 35);
        bounds("25 third", x, 2, 10, 40);
        CHECK.same("30 passCount", 3, x::passCount);
        CHECK.same("31 changeCount", 5, x::changeCount);
        CHECK.same("25 settled", 1, x::settle);
        CHECK.same("30 it counts", 4, x::passCount);
        CHECK.same("26 isSettled", true, x::isSettled);
    }

    private static void settleWithApart() {
        LintelBrothers x = doors(0, 40, 4, 8, 5, 40);
        x.addConstraint('#', 1, 0, 20);
        x.addConstraint('#', 2, 1, 3);
        x.addConstraint('<', 2, 1, 3);
        CHECK.same("25 settle with apart", 3, x::settle);
        bounds("25 apart from a fixed door", x, 0, 28, 40);
        bounds("25 the fixed door", x, 1, 8, 8);
        CHECK.same("31 changeCount", 3, x::changeCount);
    }

    private static void fullOfConstraints() {
        LintelBrothers x = doors(0, 40, 0, 40, 0, 40, 0, 40, 0, 40, 0, 40);
        for (int gap = 1; gap <= 10; gap++) {
            x.addConstraint('<', 4, 5, gap);
        }
        CHECK.same("24 ten constraints", 20, x::pass);
        bounds("24 the last of them", x, 5, 10, 40);
        CHECK.same("5 six doors", 2, x::reset);
        CHECK.same("25 ten constraints", 2, x::settle);
        CHECK.same("28 ten constraints", 10, () -> x.lowestHeight(5));
        CHECK.same("29 ten constraints", 10, () -> x.lowestHeightByPaths(5));
        CHECK.same("34 ten constraints", 10, x::peaceSum);
        CHECK.same("43 ten constraints", true, x::isConsistent);
    }

    private static void settleConflict() {
        LintelBrothers x = doors(0, 40, 0, 40, 20, 40);
        x.addConstraint('<', 0, 1, 1);
        x.addConstraint('<', 1, 0, 1);
        CHECK.same("27 the first pass is no conflict", 4, x::wouldChange);
        CHECK.rejected("25 a conflict in a later pass", LintelBrothers.CONFLICT, 0, x, x::settle);
        CHECK.same("30 passCount", 0, x::passCount);
        CHECK.same("31 changeCount", 0, x::changeCount);
        CHECK.same("24 a pass is possible", 4, x::pass);
        CHECK.refused("28 no height", NoSuchElementException.class, x, () -> x.lowestHeight(2));
        CHECK.refused("29 no height", NoSuchElementException.class, x, () -> x.lowestHeightByPaths(2));
        CHECK.same("43 isConsistent", true, x::isConsistent);
    }

    /** A circle that raises bounds by one in each pass, and never has a conflict until the very end. */
    private static void longestSettle() {
        LintelBrothers x = doors(0, 40, 0, 40);
        x.addConstraint('=', 0, 1, 0);
        x.addConstraint('<', 0, 1, 1);
        CHECK.rejected("25 a long way", LintelBrothers.CONFLICT, 1, x, x::settle);
        LintelBrothers y = doors(0, 40, 0, 40, 0, 40);
        y.addConstraint('<', 0, 1, 0);
        y.addConstraint('<', 1, 0, 0);
        CHECK.same("25 a circle without a gap", 1, y::settle);
    }

    private static void lowestHeights() {
        LintelBrothers x = doors(5, 30, 0, 40, 0, 40, 20, 40);
        x.addConstraint('<', 1, 2, 4);
        x.addConstraint('<', 0, 1, 3);
        x.addConstraint('=', 1, 3, 2);
        int[] due = {5, 18, 22, 20};
        for (int door = 0; door < due.length; door++) {
            int at = door;
            CHECK.same("28 lowestHeight", due[door], () -> x.lowestHeight(at));
            CHECK.same("29 lowestHeightByPaths", due[door], () -> x.lowestHeightByPaths(at));
        }
        CHECK.same("28 bounds stay", 0, () -> x.lowOf(1));
        for (int door : new int[] {-1, 4, 6, Integer.MAX_VALUE, Integer.MIN_VALUE}) {
            CHECK.refused("28 no door", IndexOutOfBoundsException.class, x, () -> x.lowestHeight(door));
            CHECK.refused("29 no door", IndexOutOfBoundsException.class, x, () -> x.lowestHeightByPaths(door));
        }
        x.narrow(2, 0, 21);
        for (int door = 0; door < due.length; door++) {
            int at = door;
            CHECK.refused("28 too high", NoSuchElementException.class, x, () -> x.lowestHeight(at));
            CHECK.refused("29 too high", NoSuchElementException.class, x, () -> x.lowestHeightByPaths(at));
        }
        CHECK.refused("28 no door comes first", IndexOutOfBoundsException.class, x, () -> x.lowestHeight(4));
        CHECK.refused("29 no door comes first", IndexOutOfBoundsException.class, x, () -> x.lowestHeightByPaths(4));
    }

    private static void lowestHeightsWithoutApart() {
        LintelBrothers x = doors(10, 10, 8, 12, 0, 40);
        x.addConstraint('#', 0, 1, 3);
        x.addConstraint('<', 1, 2, 20);
        CHECK.same("24 a conflict", "throws.UnsupportedOperationException", x::pass);
        CHECK.same("28 apart does not count", 28, () -> x.lowestHeight(2));
        CHECK.same("29 apart does not count", 28, () -> x.lowestHeightByPaths(2));
        CHECK.same("32 hasPeace", false, x::hasPeace);
        CHECK.same("29 also after the search", 28, () -> x.lowestHeightByPaths(2));
        LintelBrothers far = doors(0, 40, 0, 40, 0, 40, 0, 40, 0, 40, 0, 40);
        for (int door = 0; door < 5; door++) {
            far.addConstraint('<', 4 - door, 5 - door, 8);
        }
        CHECK.same("29 a path along five constraints", 40, () -> far.lowestHeightByPaths(5));
        CHECK.same("28 the same", 40, () -> far.lowestHeight(5));
        CHECK.same("25 passes of it", 6, far::settle);
        LintelBrothers back = doors(0, 40, 0, 40, 0, 40, 9, 40);
        back.addConstraint('=', 0, 1, 2);
        back.addConstraint('=', 1, 2, 2);
        back.addConstraint('=', 2, 3, 2);
        CHECK.same("29 a path against exact constraints", 3, () -> back.lowestHeightByPaths(0));
        CHECK.same("28 the same", 3, () -> back.lowestHeight(0));
    }

    private static void counts() {
        LintelBrothers x = doors(0, 40, 0, 40);
        x.addConstraint('<', 0, 1, 1);
        x.pass();
        x.reset();
        x.settle();
        CHECK.same("30 both count", 3, x::passCount);
        CHECK.same("31 both count", 4, x::changeCount);
        x.undo();
        CHECK.same("30 undone", 1, x::passCount);
        CHECK.same("31 undone", 2, x::changeCount);
        x.lowestHeight(0);
        x.isConsistent();
        x.isSettled();
        CHECK.same("30 other calls make no pass", 1, x::passCount);
        CHECK.same("31 other calls make no change", 2, x::changeCount);
    }

    private static void noDoors() {
        LintelBrothers x = new LintelBrothers();
        CHECK.same("24 pass", 0, x::pass);
        CHECK.same("25 settle", 1, x::settle);
        CHECK.same("26 isSettled", true, x::isSettled);
        CHECK.same("27 wouldChange", 0, x::wouldChange);
        CHECK.same("30 passCount", 2, x::passCount);
    }
}
