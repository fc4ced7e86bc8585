import java.util.NoSuchElementException;

/** Promises 47 to 49: the input and its commands. */
public final class CommandTests {
    private static final Check CHECK = new Check("CommandTests");

    public static void main(String[] args) {
        appendInput();
        commands();
        manyCommands();
        syntaxErrors();
        longInputs();
        failures();
        rejections();
        tooManyConstraints();
        firstFailure();
        history();
        CHECK.end();
    }

    private static void type(LintelBrothers x, String input) {
        for (int index = 0; index < input.length(); index++) {
            x.appendInput(input.charAt(index));
        }
    }

    private static Object run(LintelBrothers x, String input) {
        type(x, input);
        return x.execute();
    }

    private static LintelBrothers after(String input) {
        LintelBrothers x = new LintelBrothers();
        run(x, input);
        return x;
    }

    private static void appendInput() {
        LintelBrothers x = new LintelBrothers();
        for (char sign : new char[] {0, 10, 31, 127, 128, 255, 65535}) {
            CHECK.same("47 no character", "throws.IllegalArgumentException", () -> x.appendInput(sign));
        }
        for (int length = 1; length <= 60; length++) {
            char sign = length == 1 ? ' ' : length == 2 ? '~' : 'p';
            CHECK.same("47 appendInput", length, () -> x.appendInput(sign));
        }
        CHECK.same("47 full", "throws.IllegalStateException", () -> x.appendInput('p'));
        CHECK.same("47 the code comes first", "throws.IllegalArgumentException", () -> x.appendInput((char) 31));
        CHECK.same("47 still full", "throws.IllegalStateException", () -> x.appendInput('p'));
        x.saveSnapshot();
        CHECK.same("47 it is full of an error", "throws.IllegalArgumentException", x::execute);
        CHECK.same("48 the input is empty", 1, () -> x.appendInput('p'));
        x.restoreSnapshot();
        CHECK.same("47 no snapshot covers the input", 2, () -> x.appendInput('a'));
        CHECK.same("47 no undo covers the input", 3, () -> {
            x.reset();
            x.undo();
            return x.appendInput('s');
        });
    }

    private static void commands() {
        LintelBrothers x = new LintelBrothers();
        CHECK.same("48 door", 1, () -> run(x, "door 5-30"));
        CHECK.same("48 its low bound", 5, () -> x.lowOf(0));
        CHECK.same("48 its high bound", 30, () -> x.highOf(0));
        CHECK.same("48 two digits", 2, () -> run(x, "door 05-07;door 0-40"));
        CHECK.same("48 a zero ahead", 5, () -> x.lowOf(1));
        CHECK.same("48 frame", 1, () -> run(x, "frame 1 1-39"));
        CHECK.same("48 its frame", 39, () -> x.frameHigh(1));
        CHECK.same("48 narrow", 1, () -> run(x, "narrow 1 12-20"));
        CHECK.same("48 its bounds", 12, () -> x.lowOf(1));
        CHECK.same("48 its frame stays", 1, () -> x.frameLow(1));
        CHECK.same("48 reset", 1, () -> run(x, "reset"));
        CHECK.same("48 bounds are reset", 1, () -> x.lowOf(1));
        CHECK.same("48 lower", 1, () -> run(x, "0<1+3"));
        CHECK.same("48 exact", 1, () -> run(x, "1=2+00"));
        CHECK.same("48 apart", 1, () -> run(x, "2#0+20"));
        CHECK.same("48 its kind", '<', () -> x.kindOf(0));
        CHECK.same("48 its kind", '=', () -> x.kindOf(1));
        CHECK.same("48 its kind", '#', () -> x.kindOf(2));
        CHECK.same("48 its first", 2, () -> x.firstOf(2));
        CHECK.same("48 its second", 0, () -> x.secondOf(2));
        CHECK.same("48 its gap", 20, () -> x.gapOf(2));
        CHECK.same("48 drop", 1, () -> run(x, "drop 1"));
        CHECK.same("48 it is dropped", 2, x::constraintCount);
        CHECK.same("48 pass", 1, () -> run(x, "pass"));
        CHECK.same("48 it counts", 1, x::passCount);
        CHECK.same("48 its changes count", 1, x::changeCount);
        CHECK.same("48 settle", 1, () -> run(x, "settle"));
        CHECK.same("48 it counts", 2, x::passCount);
        CHECK.same("50 nothing was rejected", "throws.NoSuchElementException", x::rejectionReason);
    }

    private static void manyCommands() {
        LintelBrothers x = new LintelBrothers();
        CHECK.same("48 one after the other", 4, () -> run(x, "door 5-30;door 0-20;0<1+3;settle"));
        CHECK.same("48 lowOf", 8, () -> x.lowOf(1));
        CHECK.same("48 highOf", 17, () -> x.highOf(0));
        CHECK.same("48 twelve in 59 characters", 12,
                () -> run(x, "pass;pass;pass;pass;pass;pass;pass;pass;pass;pass;pass;pass"));
        CHECK.same("48 all are made", 14, x::passCount);
        CHECK.same("48 sixty characters", 11,
                () -> run(x, "pass;pass;pass;pass;pass;pass;pass;pass;pass;pass;door 10-40"));
        CHECK.same("48 the last of them", 40, () -> x.highOf(2));
    }

    private static void syntax(String input, int offset) {
        LintelBrothers x = after("door 0-9;door 0-9");
        type(x, input);
        CHECK.same("48 " + input, "throws.IllegalArgumentException", x::execute);
        CHECK.same("49 " + input, offset, x::syntaxErrorOffset);
        CHECK.same("48 nothing is made of " + input, 2, x::doorCount);
        CHECK.same("48 no pass is made of " + input, 0, x::passCount);
        CHECK.same("48 the input is empty after " + input, 1, () -> x.appendInput('d'));
        CHECK.same("50 no rejection by " + input, "throws.NoSuchElementException", x::rejectionReason);
        CHECK.same("53 no change by " + input, 0, x::undo);
    }

    /** Each beginning of a right input ends too early; each "!" in it is an error at its place. */
    private static void beginnings(String input, String complete) {
        for (int length = 0; length <= input.length(); length++) {
            if (complete.indexOf((char) ('a' + length)) < 0) {
                syntax(input.substring(0, length), length);
            }
            syntax(input.substring(0, length) + "!", length);
            syntax("pass;" + input.substring(0, length) + "~;reset", length + 5);
        }
    }

    private static void syntaxErrors() {
        beginnings("door 12-34", "jk");
        beginnings("frame 0 12-34", "mn");
        beginnings("narrow 1 12-34", "no");
        beginnings("0<1+12", "fg");
        beginnings("0=1+12", "fg");
        beginnings("0#1+12", "fg");
        beginnings("drop 12", "gh");
        beginnings("pass", "e");
        beginnings("settle", "g");
        beginnings("reset", "f");
        syntax("door 123-4", 7);
        syntax("door 12-345", 10);
        syntax("door -5-6", 5);
        syntax("door  5-6", 5);
        syntax("door 5 -6", 6);
        syntax("frame 01 2-3", 7);
        syntax("narrow 01 2-3", 8);
        syntax("drop 123", 7);
        syntax("drip 1", 2);
        syntax("Door 1-2", 0);
        syntax("0>1+1", 1);
        syntax("01<1+1", 1);
        syntax("0<11+1", 3);
        syntax("0<1-1", 3);
        syntax("0<1+123", 6);
        syntax(" pass", 0);
        syntax("pass ;pass", 4);
        syntax("pass; pass", 5);
        syntax("pass;;pass", 5);
        syntax(";pass", 0);
        syntax("pass;", 5);
        syntax("passs", 4);
        syntax("resettle", 5);
        syntax("set", 3);
        syntax("door 0-5;door 5-4;x", 18);
        LintelBrothers x = new LintelBrothers();
        CHECK.refused("49 none", NoSuchElementException.class, x, x::syntaxErrorOffset);
        type(x, "pasture");
        CHECK.same("48 pasture", "throws.IllegalArgumentException", x::execute);
        CHECK.same("49 pasture", 3, x::syntaxErrorOffset);
        CHECK.same("48 a right input", 1, () -> run(x, "pass"));
        x.undo();
        CHECK.same("49 the latest stays", 3, x::syntaxErrorOffset);
        CHECK.same("48 no input", "throws.IllegalArgumentException", x::execute);
        CHECK.same("49 no input", 0, x::syntaxErrorOffset);
    }

    private static void longInputs() {
        String twelve = "pass;pass;pass;pass;pass;pass;pass;pass;pass;pass;pass;pass";
        syntax(twelve + ";", 60);
        syntax(twelve + "p", 59);
        syntax("000000000000000000000000000000000000000000000000000000000000", 1);
        syntax("door 0-1;door 0-1;door 0-1;door 0-1;door 0-1;door 0-1;door 0", 60);
    }

    private static void fails(String input) {
        LintelBrothers x = after("door 0-9;door 0-9");
        type(x, input);
        CHECK.refused("48 " + input, IllegalStateException.class, x, x::execute);
        CHECK.same("48 the input is empty after " + input, 1, () -> x.appendInput('d'));
        CHECK.same("53 no change by " + input, 0, x::undo);
    }

    private static void failures() {
        fails("door 5-4");
        fails("door 0-41");
        fails("door 41-41");
        fails("frame 2 1-2");
        fails("frame 0 2-1");
        fails("frame 0 0-41");
        fails("narrow 2 1-2");
        fails("narrow 1 2-1");
        fails("narrow 1 0-41");
        fails("0<2+1");
        fails("2<0+1");
        fails("0<0+1");
        fails("0<1+21");
        fails("0#1+0");
        fails("9#9+0");
        fails("drop 0");
        fails("0<1+0;drop 1");
        fails("door 9-9;0<2+4;pass;settle;drop 0;reset;drop 0");
        fails("0<1+1;frame 0 1-1;narrow 1 3-4;pass;9=9+9");
    }

    private static void rejected(String input, int number, int cause) {
        LintelBrothers x = after("door 0-9;door 5-9");
        type(x, input);
        CHECK.rejected("48 " + input, LintelBrothers.COMMAND_REJECTED, number, x, x::execute);
        CHECK.same("52 " + input, cause, x::causeReason);
        CHECK.same("48 the input is empty after " + input, 1, () -> x.appendInput('d'));
        x.addConstraint('=', 0, 1, 0);
        CHECK.same("48 no id is taken by " + input, 0, () -> x.constraintAt(0));
        x.undo();
        CHECK.same("53 no change by " + input, 0, x::undo);
    }

    private static void rejections() {
        rejected("door 0-1;door 0-1;door 0-1;door 0-1;door 0-1", 4, LintelBrothers.DOOR_LIMIT);
        rejected("1<0+1;1<0+1", 1, LintelBrothers.SAME_CONSTRAINT);
        rejected("narrow 1 0-4", 0, LintelBrothers.EMPTY);
        rejected("pass;1<0+5;pass", 2, LintelBrothers.CONFLICT);
        rejected("0<1+9;1<0+0;settle", 2, LintelBrothers.CONFLICT);
        rejected("door 1-2;0<1+1;settle;drop 0;narrow 1 0-4;drop 77", 4, LintelBrothers.EMPTY);
    }

    /** Ten constraints fill an input, so the eleventh comes in another one. */
    private static void tooManyConstraints() {
        LintelBrothers x = after("door 0-9;door 5-9");
        CHECK.same("48 ten constraints", 10,
                () -> run(x, "1<0+1;1<0+2;1<0+3;1<0+4;1<0+0;1#0+6;1#0+7;1#0+8;1#0+9;1#0+1"));
        type(x, "reset;0#1+1;settle");
        CHECK.rejected("48 an eleventh", LintelBrothers.COMMAND_REJECTED, 1, x, x::execute);
        CHECK.same("52 an eleventh", LintelBrothers.CONSTRAINT_LIMIT, x::causeReason);
        CHECK.same("48 one away, one more", 2, () -> run(x, "drop 0;0#1+1"));
        CHECK.same("48 the next id", 10, () -> x.constraintAt(9));
    }

    /** What the first command that does not succeed does is what counts. */
    private static void firstFailure() {
        LintelBrothers x = after("door 5-9");
        type(x, "pass;narrow 0 0-4;drop 0");
        CHECK.rejected("48 a rejection first", LintelBrothers.COMMAND_REJECTED, 1, x, x::execute);
        type(x, "drop 0;narrow 0 0-4");
        CHECK.refused("48 another exception first", IllegalStateException.class, x, x::execute);
        CHECK.same("51 the detail stays", 1, x::rejectionDetail);
        type(x, "narrow 0 0-4;drop 0;");
        CHECK.same("48 a syntax error first", "throws.IllegalArgumentException", x::execute);
        CHECK.same("49 its offset", 20, x::syntaxErrorOffset);
        CHECK.same("51 the detail stays", 1, x::rejectionDetail);
    }

    private static void history() {
        LintelBrothers x = after("door 5-30;door 0-20;0<1+3;settle");
        CHECK.same("53 one change", 0, x::undo);
        CHECK.same("53 all is undone", 0, x::doorCount);
        CHECK.same("53 the passes too", 0, x::passCount);
        CHECK.same("53 the constraints too", 0, x::constraintCount);
        run(x, "door 5-30;door 0-20;0<1+3");
        CHECK.same("53 the id too", 0, () -> x.constraintAt(0));
        CHECK.same("48 undone and made again", 1, () -> run(x, "pass"));
        CHECK.same("53 the latest alone", 1, x::undo);
        CHECK.same("53 the bounds of before", 30, () -> x.highOf(0));
    }
}
