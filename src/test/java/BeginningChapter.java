/** What it is. */
final class BeginningChapter extends Chapter {
    private static final int CALLS = 512;

    BeginningChapter(Sentences sentences) {
        super(sentences);
    }

    @Override
    void tell() {
        under("What it is");
        holds("A solver for the heights of doors: frames, ..", this::allTogether);
        holds("An object is used for at most 512 calls after it has been made; what later calls answer is free.", () -> {
            manyPasses();
            manyIds();
            manyChanges();
            manyRefusals();
            muchInput();
            manyWays();
        });
    }

    /** Each thing that the sentence names, on one object. */
    private void allTogether() {
        LintelBrothers x = Scenes.doors(5, 30, 0, 20);
        same("frames", "5-30 0-20", () -> Look.allBounds(x));
        x.addConstraint('<', 0, 1, 3);
        same("passes", 2, x::settle);
        same("bounds that are narrowed", "5-17 8-20", () -> Look.allBounds(x));
        same("lowest heights", 8, () -> x.lowestHeight(1));
        same("found in two ways", 8, () -> x.lowestHeightByPaths(1));
        same("a search", "5 8", () -> Look.peace(x));
        same("orders", 0, () -> x.doorByWidth(0));
        same("a command language", 2, () -> Scenes.run(x, "1<0+3;door 1-40"));
        throwing(UnsupportedOperationException.class, x::settle);
        same("conflicts, reasons for rejected calls", "5 1", () -> Look.rejection(x));
        throwing(IllegalArgumentException.class, () -> Scenes.run(x, "reset,pass"));
        same("syntax errors by offset", 5, x::syntaxErrorOffset);
        same("undo", 4, x::undo);
        same("a snapshot", 2, x::saveSnapshot);
        x.reset();
        same("a snapshot", 2, x::restoreSnapshot);
        same("5-17 8-20", () -> Look.allBounds(x));
    }

    /** 512 calls, of which the last asks for the count of all others. */
    private void manyPasses() {
        LintelBrothers settled = new LintelBrothers();
        LintelBrothers passed = new LintelBrothers();
        for (int call = 1; call < CALLS; call++) {
            same(1, settled::settle);
            same(0, passed::pass);
        }
        same(CALLS - 1, settled::passCount);
        same(CALLS - 1, passed::passCount);
    }

    /** Two doors, and 255 times a constraint that comes and goes. */
    private void manyIds() {
        LintelBrothers x = Scenes.doors(0, 40, 0, 40);
        for (int id = 0; id < (CALLS - 2) / 2; id++) {
            int due = id;
            same(due, () -> x.addConstraint('#', 0, 1, 20));
            same(0, () -> x.removeConstraint(due));
        }
    }

    /** Six doors in a row, whose bounds are narrowed and reset again and again. */
    private void manyChanges() {
        LintelBrothers x = Scenes.doors(0, 40, 0, 40, 0, 40, 0, 40, 0, 40, 0, 40);
        for (int door = 4; door >= 0; door--) {
            x.addConstraint('<', door, door + 1, 8);
        }
        int changes = 0;
        for (int call = 11; call + 2 <= CALLS - 1; call += 2) {
            same(6, x::settle);
            same(10, x::reset);
            changes += 20;
        }
        int due = changes;
        same(due, x::changeCount);
    }

    /** Refused calls are calls, too; none of them uses anything up. */
    private void manyRefusals() {
        LintelBrothers x = Scenes.doors(3, 7);
        for (int call = 2; call < CALLS; call += 2) {
            throwing(UnsupportedOperationException.class, () -> x.narrow(0, 8, 40));
            throwing(IllegalArgumentException.class, x::execute);
        }
        same(0, x::undo);
    }

    private void muchInput() {
        LintelBrothers x = new LintelBrothers();
        String passes = "pass;pass;pass;pass;pass;pass;pass;pass;pass;pass;pass;pass";
        for (int call = 0; call + passes.length() + 1 < CALLS; call += passes.length() + 1) {
            same(12, () -> Scenes.run(x, passes));
        }
        same(96, x::passCount);
    }

    /** A search with many choices gives the same answer each time. */
    private void manyWays() {
        LintelBrothers x = Scenes.doors(0, 40, 0, 40, 0, 40, 0, 40, 0, 40);
        for (int door = 0; door < 5; door++) {
            for (int other = door + 1; other < 5; other++) {
                x.addConstraint('#', other, door, 10);
            }
        }
        for (int call = 15; call + 3 <= CALLS; call += 3) {
            same(40, () -> x.peaceHeight(4));
            same(true, () -> x.arePossible(4, 0, 0, 40));
            same(false, () -> x.arePossible(4, 0, 0, 39));
        }
    }
}
