import java.util.NoSuchElementException;

/** Promises 44 to 46: text output. */
public final class OutputTests {
    private static final Check CHECK = new Check("OutputTests");

    public static void main(String[] args) {
        writeDoor();
        writeConstraint();
        CHECK.end();
    }

    private static void output(String what, LintelBrothers x, String due, Check.Call call) {
        CHECK.same(what + " length of " + due, due.length(), call);
        CHECK.same(what, due, () -> Look.output(x));
    }

    private static void writeDoor() {
        LintelBrothers x = new LintelBrothers();
        CHECK.refused("46 empty", IndexOutOfBoundsException.class, x, () -> x.outputAt(0));
        x.addDoor(5, 5);
        x.addDoor(0, 40);
        x.addDoor(7, 31);
        output("44 fixed", x, "0[5]", () -> x.writeDoor(0));
        output("44 open", x, "1[0..40]", () -> x.writeDoor(1));
        x.narrow(1, 0, 39);
        output("44 the high bound narrowed", x, "1[0..39]*", () -> x.writeDoor(1));
        x.narrow(2, 8, 40);
        output("44 the low bound narrowed", x, "2[8..31]*", () -> x.writeDoor(2));
        x.narrow(2, 10, 10);
        output("44 narrowed to one height", x, "2[10]*", () -> x.writeDoor(2));
        for (int door : new int[] {-1, 3, 6, Integer.MAX_VALUE, Integer.MIN_VALUE}) {
            CHECK.refused("44 no door", IndexOutOfBoundsException.class, x, () -> x.writeDoor(door));
        }
        x.undo();
        CHECK.same("46 undo leaves the output", "2[10]*", () -> Look.output(x));
        for (int index : new int[] {-1, 6, 7, 16, Integer.MAX_VALUE, Integer.MIN_VALUE}) {
            CHECK.refused("46 no character", IndexOutOfBoundsException.class, x, () -> x.outputAt(index));
        }
        CHECK.same("46 the first", '2', () -> x.outputAt(0));
        CHECK.same("46 the last", '*', () -> x.outputAt(5));
        output("44 in place of a longer one", x, "0[5]", () -> x.writeDoor(0));
    }

    private static void writeConstraint() {
        LintelBrothers x = new LintelBrothers();
        CHECK.refused("45 none", NoSuchElementException.class, x, () -> x.writeConstraint(0));
        x.addDoor(0, 40);
        x.addDoor(0, 40);
        x.addDoor(0, 40);
        x.addConstraint('<', 0, 2, 5);
        x.addConstraint('=', 2, 1, 0);
        x.addConstraint('#', 1, 0, 20);
        output("45 lower", x, "0:0<2+5", () -> x.writeConstraint(0));
        output("45 no gap", x, "1:2=1", () -> x.writeConstraint(1));
        output("45 apart", x, "2:1#0+20", () -> x.writeConstraint(2));
        x.writeDoor(0);
        for (int id : new int[] {-1, 3, 10, Integer.MAX_VALUE, Integer.MIN_VALUE}) {
            CHECK.refused("45 no id", NoSuchElementException.class, x, () -> x.writeConstraint(id));
        }
        for (int id = 3; id < 112; id++) {
            x.removeConstraint(id - 1);
            x.addConstraint('#', 1, 0, 20);
        }
        output("45 a long id", x, "111:1#0+20", () -> x.writeConstraint(111));
        CHECK.refused("45 a removed one", NoSuchElementException.class, x, () -> x.writeConstraint(110));
    }
}
