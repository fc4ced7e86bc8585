/** Promises 44 to 46: text output. */
final class OutputChapter extends Chapter {
    OutputChapter(Sentences sentences) {
        super(sentences);
    }

    @Override
    void tell() {
        promise(44);
        writeDoor();
        promise(45);
        writeConstraint();
        promise(46);
        outputAt();
    }

    /** The call writes the text, and answers its length. */
    private void writes(String due, Scene scene, Scene.Deed call) {
        LintelBrothers x = scene.make();
        same(due, due.length(), () -> call.on(x));
        same(due, () -> Look.output(x));
    }

    private void writesDoor(String due, int door, Scene scene) {
        writes(due, scene, x -> x.writeDoor(door));
    }

    private void writeDoor() {
        holds("Writes a door to the output, in place of the earlier output: ..", () -> {
            writesDoor("0[12..29]*", 0, Scenes.SOME);
            writesDoor("1[12]*", 1, Scenes.SOME);
            writesDoor("2[7]", 2, Scenes.SOME);
            writesDoor("0[0..40]", 0, () -> Scenes.doors(0, 40));
            writesDoor("0[0..39]*", 0, () -> Scenes.narrowed(0, 39));
            writesDoor("0[1..40]*", 0, () -> Scenes.narrowed(1, 40));
            writesDoor("0[9..10]*", 0, () -> Scenes.narrowed(9, 10));
            writesDoor("0[10]*", 0, () -> Scenes.narrowed(10, 10));
            writesDoor("0[9..10]", 0, () -> Scenes.doors(9, 10));
            writesDoor("0[0]", 0, () -> Scenes.doors(0, 0));
            writesDoor("0[40]", 0, () -> Scenes.doors(40, 40));
            writesDoor("0[0]*", 0, () -> Scenes.narrowed(0, 0));
            writesDoor("0[40]*", 0, () -> Scenes.narrowed(40, 40));
            LintelBrothers x = Scenes.narrowed(10, 30, 5, 5);
            x.writeDoor(0);
            same("0[10..30]*", () -> Look.output(x));
            x.writeDoor(1);
            same("in place of a longer one", "1[5]*", () -> Look.output(x));
            x.reset();
            same("what is written stays", "1[5]*", () -> Look.output(x));
            x.writeDoor(1);
            same("1[0..40]", () -> Look.output(x));
            leaves(Scenes.FULL, y -> y.writeDoor(2), Facts.OUTPUT);
        });
        holds("Examples are \"2[7..31]*\" and \"0[5]\".", () -> {
            Scene examples = () -> {
                LintelBrothers x = Scenes.doors(5, 5, 0, 1, 3, 31);
                x.narrow(2, 7, 31);
                return x;
            };
            writesDoor("2[7..31]*", 2, examples);
            writesDoor("0[5]", 0, examples);
        });
        holds("- `door`: the index of a door", () -> {
            Scene six = () -> Scenes.narrowed(0, 10, 1, 9, 2, 8, 3, 7, 4, 6, 5, 5);
            String[] due = {"0[0..10]*", "1[1..9]*", "2[2..8]*", "3[3..7]*", "4[4..6]*", "5[5]*"};
            for (int door = 0; door < 6; door++) {
                writesDoor(due[door], door, six);
            }
        });
        holds("Returns the length of the output.", () -> {
            same(4, () -> Scenes.doors(0, 0).writeDoor(0));
            same(5, () -> Scenes.doors(10, 10).writeDoor(0));
            same(6, () -> Scenes.narrowed(10, 10).writeDoor(0));
            same(7, () -> Scenes.doors(0, 9).writeDoor(0));
            same(8, () -> Scenes.doors(0, 10).writeDoor(0));
            same(9, () -> Scenes.doors(10, 40).writeDoor(0));
            same(10, () -> Scenes.narrowed(10, 39).writeDoor(0));
            LintelBrothers x = Scenes.narrowed(10, 39, 5, 5);
            x.writeDoor(0);
            same("not of all that was written", 5, () -> x.writeDoor(1));
        });
        holds("Throws `IndexOutOfBoundsException` if there is no such door",
                () -> refusesOtherDoors(LintelBrothers::writeDoor));
    }

    private void writesConstraint(String due, int id, Scene scene) {
        writes(due, scene, x -> x.writeConstraint(id));
    }

    private static Scene constraints(String input) {
        return () -> {
            LintelBrothers x = Scenes.doors(0, 40, 0, 40, 0, 40, 0, 40, 0, 40, 0, 40);
            Scenes.run(x, input);
            return x;
        };
    }

    private void writeConstraint() {
        holds("Writes a constraint to the output, in place of the earlier output: its id, \":\", its first door, "
                + "its kind, its second door, and \"+\" and its gap if this is not 0.", () -> {
            writesConstraint("0:0#2+4", 0, Scenes.SOME);
            writesConstraint("2:2=1+5", 2, Scenes.SOME);
            writesConstraint("1:0<1+1", 1, Scenes.FULL);
            writesConstraint("10:2=3+1", 10, Scenes.FULL);
            writesConstraint("11:0<4", 11, Scenes.FULL);
            for (char kind : KINDS) {
                writesConstraint("0:5" + kind + "0+20", 0, constraints("5" + kind + "0+20"));
                writesConstraint("0:0" + kind + "5+1", 0, constraints("0" + kind + "5+1"));
                writesConstraint("0:3" + kind + "4+10", 0, constraints("3" + kind + "4+10"));
                if (kind != '#') {
                    writesConstraint("0:1" + kind + "2", 0, constraints("1" + kind + "2+0"));
                }
            }
            LintelBrothers x = constraints("0<1+20;2=3+0").make();
            x.writeConstraint(0);
            same("0:0<1+20", () -> Look.output(x));
            x.writeConstraint(1);
            same("in place of a longer one", "1:2=3", () -> Look.output(x));
            x.writeDoor(0);
            same("0[0..40]", () -> Look.output(x));
            x.removeConstraint(1);
            same("what is written stays", "0[0..40]", () -> Look.output(x));
            leaves(Scenes.FULL, y -> y.writeConstraint(2), Facts.OUTPUT);
        });
        holds("An example is \"4:0<2+5\".", () -> writesConstraint("4:0<2+5", 4,
                constraints("0<1+1;0<1+2;0<1+3;0<1+4;0<2+5")));
        holds("- `id`: the id of a constraint", () -> {
            LintelBrothers x = constraints("0<1+2").make();
            for (int id = 1; id <= 210; id++) {
                x.removeConstraint(id - 1);
                x.addConstraint('#', id % 2, 2, 3);
                if (id == 9 || id == 10 || id == 99 || id == 100 || id == 210) {
                    String due = id + ":" + id % 2 + "#2+3";
                    int its = id;
                    same(due.length(), () -> x.writeConstraint(its));
                    same("numbers of one digit and more", due, () -> Look.output(x));
                }
            }
        });
        holds("Returns the length of the output.", () -> {
            same(5, () -> constraints("0<1+0").make().writeConstraint(0));
            same(7, () -> constraints("0<1+9").make().writeConstraint(0));
            same(8, () -> constraints("0<1+10").make().writeConstraint(0));
            same(6, () -> Scenes.FULL.make().writeConstraint(11));
            same(8, () -> Scenes.FULL.make().writeConstraint(10));
        });
        holds("Throws `NoSuchElementException` if there is no constraint with this id",
                () -> refusesOtherIds(LintelBrothers::writeConstraint));
    }

    private void outputAt() {
        holds("Returns a character of the output.", () -> {
            LintelBrothers x = Scenes.SOME.make();
            same('0', () -> x.outputAt(0));
            same('[', () -> x.outputAt(1));
            same('1', () -> x.outputAt(2));
            same(']', () -> x.outputAt(8));
            same('*', () -> x.outputAt(9));
            x.writeConstraint(2);
            same('2', () -> x.outputAt(0));
            same('=', () -> x.outputAt(3));
            same('5', () -> x.outputAt(6));
        });
        holds("The output is empty at first.", () -> {
            for (Scene scene : new Scene[] {Scenes.NOTHING, Scenes.TORN, () -> Scenes.doors(0, 40)}) {
                refusesAll(IndexOutOfBoundsException.class, scene, new int[] {0, 1, -1}, LintelBrothers::outputAt);
            }
            Scene filled = Scenes.TORN.then(x -> {
                Scenes.run(x, "reset");
                x.saveSnapshot();
                x.addDoor(0, 1);
                return x.undo();
            });
            same("", () -> Look.output(filled.make()));
        });
        holds("- `index`: the index, from 0", () -> {
            String due = "0[12..29]*";
            for (int index = 0; index < due.length(); index++) {
                int at = index;
                same(due.charAt(at), () -> Scenes.SOME.make().outputAt(at));
            }
            String constraint = "11:0<4";
            for (int index = 0; index < constraint.length(); index++) {
                int at = index;
                same(constraint.charAt(at), () -> Scenes.FULL.make().outputAt(at));
            }
        });
        holds("Returns the character.", () -> {
            LintelBrothers x = Scenes.SOME.make();
            same('.', () -> x.outputAt(4));
            same('.', () -> x.outputAt(4));
            same('.', () -> x.outputAt(5));
            leaves(Scenes.SOME, y -> y.outputAt(4));
        });
        holds("Throws `IndexOutOfBoundsException` if there is no character at this index", () -> {
            refusesAll(IndexOutOfBoundsException.class, Scenes.NOTHING, outside(0, -1), LintelBrothers::outputAt);
            refusesAll(IndexOutOfBoundsException.class, Scenes.SOME, outside(0, 9), LintelBrothers::outputAt);
            refusesAll(IndexOutOfBoundsException.class, Scenes.FULL, outside(0, 5), LintelBrothers::outputAt);
            Scene shorter = Scenes.SOME.then(x -> x.writeDoor(2));
            refusesAll(IndexOutOfBoundsException.class, shorter, new int[] {4, 5, 9}, LintelBrothers::outputAt);
            same(']', () -> shorter.make().outputAt(3));
            Scene refused = Scenes.SOME.then(x -> x.writeDoor(3));
            same("a refused call leaves the output", "0[12..29]*", () -> Look.output(refused.make()));
            Scene refusedId = Scenes.SOME.then(x -> x.writeConstraint(1));
            same("a refused call leaves the output", "0[12..29]*", () -> Look.output(refusedId.make()));
        });
    }
}
