/** The states in which calls are tried. */
final class Scenes {
    /** A new object. */
    static final Scene NOTHING = LintelBrothers::new;
    /** Three doors, the constraints 0 and 2, three changes to undo, and some of all else that can be told. */
    static final Scene SOME = some("pass;re");
    /** Six doors, ten constraints, eight changes to undo, and sixty characters of input. */
    static final Scene FULL = full("pass;pass;pass;pass;pass;pass;pass;pass;pass;pass;door 10-40");
    /** Two doors and a constraint that leaves no height to them. */
    static final Scene TORN = Scenes::torn;

    /** The ids of FULL. */
    static final int[] FULL_IDS = {1, 2, 3, 4, 6, 7, 8, 9, 10, 11};

    private Scenes() {
    }

    static void type(LintelBrothers x, String input) {
        for (int index = 0; index < input.length(); index++) {
            x.appendInput(input.charAt(index));
        }
    }

    /** Types the input and executes it. */
    static int run(LintelBrothers x, String input) {
        type(x, input);
        return x.execute();
    }

    /** Doors with these frames, each a lowest and a greatest height. */
    static LintelBrothers doors(int... heights) {
        LintelBrothers x = new LintelBrothers();
        for (int at = 0; at < heights.length; at += 2) {
            x.addDoor(heights[at], heights[at + 1]);
        }
        return x;
    }

    /** Doors with frames from 0 to 40 and these bounds. */
    static LintelBrothers narrowed(int... bounds) {
        LintelBrothers x = new LintelBrothers();
        for (int at = 0; at < bounds.length; at += 2) {
            x.addDoor(0, 40);
            x.narrow(at / 2, bounds[at], bounds[at + 1]);
        }
        return x;
    }

    /** SOME with another input. */
    static Scene some(String input) {
        return () -> {
            LintelBrothers x = doors(2, 38, 0, 20, 7, 7);
            Check.answer(() -> run(x, "dr"));
            Check.answer(() -> x.narrow(2, 8, 9));
            x.addConstraint('#', 0, 2, 4);
            x.addConstraint('<', 1, 0, 3);
            x.addConstraint('=', 2, 1, 5);
            x.removeConstraint(1);
            x.saveSnapshot();
            x.restoreSnapshot();
            x.narrow(0, 5, 30);
            x.pass();
            x.narrow(0, 12, 29);
            x.writeDoor(0);
            type(x, input);
            return x;
        };
    }

    /** FULL with another input. */
    static Scene full(String input) {
        return () -> {
            LintelBrothers x = doors(0, 40, 1, 39, 2, 38, 3, 37, 4, 36, 0, 0);
            Check.answer(() -> run(x, "pass;door 1-2"));
            Check.answer(() -> run(x, "settle;pasture"));
            x.undo();
            x.saveSnapshot();
            x.addDoor(5, 35);
            String[] constraints = {"0<1+2", "0<1+1", "1<2+1", "2<3+1", "3<4+1", "4<5+2", "4<5+1", "0#5+2", "1#5+2",
                "0=1+1"};
            for (String constraint : constraints) {
                run(x, constraint);
            }
            x.removeConstraint(0);
            x.removeConstraint(5);
            run(x, "2=3+1");
            run(x, "0<4+0");
            x.settle();
            x.narrow(2, 3, 20);
            x.writeConstraint(11);
            type(x, input);
            return x;
        };
    }

    /** The scene and then the input. */
    static Scene typed(Scene scene, String input) {
        return scene.then(x -> {
            type(x, input);
            return 0;
        });
    }

    private static LintelBrothers torn() {
        LintelBrothers x = doors(5, 9, 0, 7);
        x.addConstraint('<', 1, 0, 0);
        x.addConstraint('<', 0, 1, 3);
        return x;
    }
}
