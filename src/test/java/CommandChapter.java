import java.util.NoSuchElementException;

/** Promises 47 to 49: the input and its commands. */
final class CommandChapter extends Chapter {
    private static final Class<IllegalArgumentException> SYNTAX_ERROR = IllegalArgumentException.class;
    private static final Class<IllegalStateException> FAILURE = IllegalStateException.class;
    private static final String SIXTY = "pass;pass;pass;pass;pass;pass;pass;pass;pass;pass;door 10-40";

    /** Two doors and a constraint. */
    private static final Scene PAIR = () -> {
        LintelBrothers x = Scenes.doors(5, 30, 0, 20);
        x.addConstraint('<', 0, 1, 3);
        return x;
    };

    CommandChapter(Sentences sentences) {
        super(sentences);
    }

    @Override
    void tell() {
        promise(47);
        appendInput();
        promise(48);
        execute();
        executeThrows();
        promise(49);
        syntaxErrorOffset();
    }

    // ---- promise 47

    private void appendInput() {
        holds("Appends a character to the input.", () -> {
            LintelBrothers x = PAIR.make();
            Scenes.type(x, "door 12-34");
            same(1, x::execute);
            same("12-34", () -> Look.bounds(x, 2));
            Scenes.type(x, "pas");
            x.appendInput('s');
            same("behind the others", 1, x::execute);
            leaves(Scenes.SOME, y -> y.appendInput('x'), Facts.INPUT, Facts.INPUT_LENGTH);
        });
        holds("- `character`: the character, with a code from 32 to 126", () -> {
            for (int code = 32; code <= 126; code++) {
                char character = (char) code;
                LintelBrothers x = new LintelBrothers();
                same("code " + code, 1, () -> x.appendInput(character));
                same("code " + code, 2, () -> x.appendInput(character));
                throwing(SYNTAX_ERROR, x::execute);
                same("code " + code, "dfnpsr0123456789".indexOf(character) >= 0 ? 1 : 0, x::syntaxErrorOffset);
            }
        });
        holds("Returns the length of the input after the call.", () -> {
            LintelBrothers x = PAIR.make();
            for (int length = 1; length <= 60; length++) {
                char character = SIXTY.charAt(length - 1);
                same(length, () -> x.appendInput(character));
            }
            same(11, x::execute);
            same("after it is executed", 1, () -> x.appendInput('p'));
            x.undo();
            x.saveSnapshot();
            x.restoreSnapshot();
            same(2, () -> x.appendInput('p'));
            same(8, () -> Scenes.SOME.make().appendInput('s'));
        });
        holds("Throws `IllegalArgumentException` if the code is out of range", () -> {
            for (Scene scene : new Scene[] {Scenes.NOTHING, Scenes.SOME, Scenes.FULL}) {
                for (char code : new char[] {0, 9, 10, 31, 127, 128, 160, 255, 256, 288, 32767, 32768, 65535}) {
                    refused(SYNTAX_ERROR, scene, x -> x.appendInput(code));
                }
            }
        });
        holds("Throws `IllegalStateException` if the input has 60 characters", () -> {
            refused(FAILURE, Scenes.FULL, x -> x.appendInput('p'));
            refused(FAILURE, Scenes.FULL, x -> x.appendInput(' '));
            refused(FAILURE, Scenes.FULL, x -> x.appendInput('~'));
            Scene almost = Scenes.typed(PAIR, SIXTY.substring(0, 59));
            same("the last one", 60, () -> almost.make().appendInput('0'));
            refused(FAILURE, almost.then(x -> x.appendInput('0')), x -> x.appendInput('0'));
            LintelBrothers full = Scenes.FULL.make();
            Check.answer(full::execute);
            same("there is room after execute", 1, () -> full.appendInput('p'));
        });
    }

    // ---- promise 48

    private void execute() {
        holds("Executes the commands of the input, all of them or none.", () -> {
            LintelBrothers x = PAIR.make();
            Scenes.run(x, "narrow 0 6-29;settle;door 1-2;drop 0;2#0+4;frame 2 3-9");
            same("5-30 in 5-30, 0-20 in 0-20, 3-9 in 3-9, 1:2#0+4, passes 2, changes 2", () -> Look.data(x));
            String[] none = {"pass;door 1-2;frame 0 1-2;narrow 1 5-6;0#1+1;drop 0;x", "pass;settle;drop 0;reset;drop 0",
                "narrow 0 9-9;door 1-2;1=2+0;settle;drop 7", "drop 0;1#0+1;frame 1 5-6;narrow 1 7-8",
                "door 1-2;door 1-2;door 1-2;door 1-2;door 1-2"};
            for (String input : none) {
                Scene scene = Scenes.typed(PAIR, input);
                same(input, "throws", () -> Check.answer(() -> scene.make().execute()).toString().substring(0, 6));
                Scene executed = scene.then(LintelBrothers::execute);
                same(input, Look.data(PAIR.make()), () -> Look.data(executed.make()));
                same(input, "1", () -> Facts.nextId(executed.make()));
                same(input, 2, () -> executed.make().undo());
            }
        });
        holds("The input is empty after the call, also if an exception is thrown.", () -> {
            for (String input : new String[] {"", "pass", "settle;reset", SIXTY, "x", SIXTY.replace("-", " "), "drop 9",
                "narrow 0 0-1", "1<0+1;1<0+1"}) {
                inputIsEmpty(Scenes.typed(PAIR, input).then(LintelBrothers::execute));
            }
            inputIsEmpty(Scenes.FULL.then(LintelBrothers::execute));
        });
        holds("Returns the number of commands.", () -> {
            same(1, () -> Scenes.typed(PAIR, "pass").make().execute());
            same(2, () -> Scenes.typed(PAIR, "drop 0;0=1+20").make().execute());
            same(11, () -> Scenes.typed(PAIR, SIXTY).make().execute());
            StringBuilder input = new StringBuilder("pass");
            for (int commands = 1; commands <= 12; commands++) {
                String executed = input.toString();
                same(commands, () -> Scenes.typed(PAIR, executed).make().execute());
                input.append(";pass");
            }
        });
    }

    /** The commands of the scene throw the exception; nothing but the input and a syntax error is different then. */
    private void fails(Class<? extends RuntimeException> due, Scene scene) {
        throwing(due, () -> scene.make().execute());
        leaves(scene, LintelBrothers::execute, Facts.INPUT, Facts.INPUT_LENGTH,
                due == SYNTAX_ERROR ? Facts.SYNTAX_ERROR : "");
    }

    private void executeThrows() {
        holds("Throws `IllegalArgumentException` if the input has a syntax error; syntaxErrorOffset returns its offset",
                () -> {
                    String[] inputs = {"", ";", "pass;", "door 1-2;frame 0 1", "pasture", "0<1+1;0<1-1", "drop 123",
                        "drop 9;narrow 0 1-0;y"};
                    int[] offsets = {0, 0, 5, 18, 3, 9, 7, 20};
                    for (int at = 0; at < inputs.length; at++) {
                        fails(SYNTAX_ERROR, Scenes.typed(PAIR, inputs[at]));
                        fails(SYNTAX_ERROR, Scenes.some(inputs[at]));
                        fails(SYNTAX_ERROR, Scenes.full(inputs[at]));
                        Scene executed = Scenes.typed(PAIR, inputs[at]).then(LintelBrothers::execute);
                        same(inputs[at], offsets[at], () -> executed.make().syntaxErrorOffset());
                    }
                });
        holds("Throws `IllegalStateException` if the first command that fails does so for another reason than a "
                + "rejection: its method throws another exception than UnsupportedOperationException", () -> {
            for (String input : new String[] {"door 5-4", "door 0-41", "door 41-41", "door 99-99", "frame 2 1-2",
                "frame 9 1-2", "frame 0 2-1", "frame 0 0-41", "narrow 2 1-2", "narrow 9 1-2", "narrow 0 2-1",
                "narrow 1 0-41", "0<2+1", "2=0+1", "9#0+1", "0<0+1", "1=1+1", "0#0+1", "0<1+21", "0=1+99", "0#1+21",
                "0#1+0", "0#1+00", "drop 1", "drop 99", "drop 0;drop 0", "pass;settle;reset;drop 2", "0#1+5;drop 2",
                "narrow 1 5-6;frame 1 9-8", "door 2-1;narrow 0 0-1"}) {
                fails(FAILURE, Scenes.typed(PAIR, input));
            }
            fails(FAILURE, Scenes.some("drop 1"));
            fails(FAILURE, Scenes.some("drop 3"));
            fails(FAILURE, Scenes.full("drop 12"));
            fails(FAILURE, Scenes.full("frame 6 1-2"));
            fails(FAILURE, Scenes.full("door 0-41"));
            fails(FAILURE, Scenes.full("6<0+1"));
            commandsRejected(0, LintelBrothers.EMPTY, Scenes.typed(PAIR, "narrow 0 0-4;drop 9"));
        });
        holds("Throws `UnsupportedOperationException` if the call is rejected with the reason COMMAND_REJECTED", () -> {
            commandsRejected(4, LintelBrothers.DOOR_LIMIT,
                    Scenes.typed(PAIR, "door 0-1;door 0-1;door 0-1;door 0-1;door 0-1"));
            commandsRejected(0, LintelBrothers.SAME_CONSTRAINT, Scenes.typed(PAIR, "0<1+3"));
            commandsRejected(1, LintelBrothers.SAME_CONSTRAINT, Scenes.typed(PAIR, "0<1+4;0<1+04"));
            commandsRejected(9, LintelBrothers.CONSTRAINT_LIMIT,
                    Scenes.typed(PAIR, "1#0+1;1#0+2;1#0+3;1#0+4;1#0+5;1#0+6;1#0+7;1#0+8;1#0+9;0#1+1"));
            commandsRejected(1, LintelBrothers.EMPTY, Scenes.typed(PAIR, "frame 1 7-9;narrow 1 0-6"));
            commandsRejected(2, LintelBrothers.CONFLICT, Scenes.typed(PAIR, "pass;0=1+20;pass"));
            commandsRejected(1, LintelBrothers.CONFLICT, Scenes.typed(PAIR, "1<0+1;settle"));
            commandsRejected(10, LintelBrothers.DOOR_LIMIT, Scenes.FULL);
        });
    }

    // ---- promise 49

    private void syntaxErrorOffset() {
        holds("Returns the offset of the latest syntax error.", () -> {
            LintelBrothers x = PAIR.make();
            String[] inputs = {"pasture", "", "door 1-2;x", "settle!"};
            int[] offsets = {3, 0, 9, 6};
            for (int at = 0; at < inputs.length; at++) {
                String input = inputs[at];
                throwing(SYNTAX_ERROR, () -> Scenes.run(x, input));
                same(input, offsets[at], x::syntaxErrorOffset);
            }
            Scenes.run(x, "pass");
            same("a right input leaves it", 6, x::syntaxErrorOffset);
            throwing(FAILURE, () -> Scenes.run(x, "drop 9"));
            same("a failure leaves it", 6, x::syntaxErrorOffset);
            throwing(UnsupportedOperationException.class, () -> Scenes.run(x, "narrow 0 0-1"));
            same("a rejection leaves it", 6, x::syntaxErrorOffset);
            throwing(SYNTAX_ERROR, () -> x.addDoor(5, 4));
            throwing(SYNTAX_ERROR, () -> x.appendInput((char) 10));
            same("another call leaves it", 6, x::syntaxErrorOffset);
            x.undo();
            x.saveSnapshot();
            x.restoreSnapshot();
            same("undo and the snapshot leave it", 6, x::syntaxErrorOffset);
            leaves(Scenes.SOME, LintelBrothers::syntaxErrorOffset);
        });
        holds("Returns the offset.", () -> {
            same(2, () -> Scenes.SOME.make().syntaxErrorOffset());
            same(10, () -> Scenes.FULL.make().syntaxErrorOffset());
            for (int length = 0; length <= 59; length++) {
                String input = SIXTY.substring(0, length) + "!";
                LintelBrothers x = Scenes.typed(PAIR, input).then(LintelBrothers::execute).make();
                same(input, length, x::syntaxErrorOffset);
            }
            Scene nearTheEnd = Scenes.typed(PAIR, SIXTY.substring(0, 58) + "--");
            same(58, () -> nearTheEnd.then(LintelBrothers::execute).make().syntaxErrorOffset());
            Scene atTheEnd = Scenes.typed(PAIR, "reset;" + SIXTY.substring(0, 54));
            same("the length of a full input", 60,
                    () -> atTheEnd.then(LintelBrothers::execute).make().syntaxErrorOffset());
        });
        holds("Throws `NoSuchElementException` if there was no syntax error", () -> {
            refused(NoSuchElementException.class, Scenes.NOTHING, LintelBrothers::syntaxErrorOffset);
            refused(NoSuchElementException.class, PAIR, LintelBrothers::syntaxErrorOffset);
            for (String input : new String[] {"pass", "drop 9", "narrow 0 0-1", SIXTY}) {
                LintelBrothers x = PAIR.make();
                Check.answer(() -> Scenes.run(x, input));
                throwing(NoSuchElementException.class, x::syntaxErrorOffset);
            }
        });
    }
}
