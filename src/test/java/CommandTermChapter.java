/** Terms: commands. */
final class CommandTermChapter extends Chapter {
    private static final String TWELVE = "pass;pass;pass;pass;pass;pass;pass;pass;pass;pass;pass;pass";
    /** Two doors and a constraint; the one scene in which inputs are read. */
    private static final Scene SCENE = () -> {
        LintelBrothers x = Scenes.doors(0, 40, 5, 35);
        x.addConstraint('<', 0, 1, 3);
        return x;
    };

    CommandTermChapter(Sentences sentences) {
        super(sentences);
    }

    @Override
    void tell() {
        holds("The input has one or more commands, with \";\" between two of them.", this::inputs);
        holds("\"door \" and a number, \"-\" and a number adds a door with a lowest and a greatest height.",
                this::door);
        holds("\"frame \" and a digit, a space, a number, \"-\" and a number changes a frame, and \"narrow \" with the "
                + "same narrows bounds.", this::frameAndNarrow);
        holds("A digit, a kind, a digit, \"+\" and a number adds a constraint between two doors.", this::constraint);
        holds("\"drop \" and a number removes a constraint.", this::drop);
        holds("\"pass\", \"settle\" and \"reset\" are commands without numbers.", this::withoutNumbers);
        holds("A number has one or two digits.", this::digits);
        holds("The offset of a syntax error is the index of the first character that cannot follow the characters "
                + "ahead of it in any input; it is the length of the input if the input ends too early.",
                this::offsets);
    }

    /** The input is executed; what is due is the number of commands and the data after them. */
    private void makes(String data, int commands, String input) {
        LintelBrothers x = SCENE.make();
        same(input, commands, () -> Scenes.run(x, input));
        same(input, data, () -> Look.data(x));
    }

    /** The input has a syntax error, of which nothing but its offset stays. */
    private void wrong(String input, int offset) {
        Scene typed = SCENE.then(x -> {
            Scenes.type(x, input);
            return 0;
        });
        same(input, "throws.IllegalArgumentException", () -> typed.make().execute());
        Scene executed = typed.then(LintelBrothers::execute);
        same(input, offset, () -> executed.make().syntaxErrorOffset());
        inputIsEmpty(executed);
        leaves(typed, LintelBrothers::execute, Facts.SYNTAX_ERROR, Facts.INPUT, Facts.INPUT_LENGTH);
    }

    private void inputs() {
        makes("0-32 in 0-40, 5-35 in 5-35, 0:0<1+3, passes 1, changes 1", 1, "pass");
        makes("3-30 in 3-30, 5-35 in 5-35, 9-9 in 8-9, passes 0, changes 0", 4,
                "drop 0;frame 0 3-30;door 8-9;narrow 2 9-9");
        makes("0-32 in 0-40, 5-35 in 5-35, 0:0<1+3, passes 12, changes 1", 12, TWELVE);
        makes("0-32 in 0-40, 5-35 in 5-35, 10-40 in 10-40, 0:0<1+3, passes 10, changes 1", 11,
                TWELVE.substring(10) + ";door 10-40");
        wrong("", 0);
        wrong(";", 0);
        wrong(";pass", 0);
        wrong("pass;", 5);
        wrong("pass;;pass", 5);
        wrong("pass,pass", 4);
        wrong("pass pass", 4);
        wrong("passpass", 4);
        wrong("pass; pass", 5);
        wrong(" pass", 0);
        wrong(TWELVE + ";", 60);
        wrong(TWELVE + "p", 59);
    }

    private void door() {
        String two = "0-40 in 0-40, 5-35 in 5-35, ";
        String rest = "0:0<1+3, passes 0, changes 0";
        makes(two + "0-40 in 0-40, " + rest, 1, "door 0-40");
        makes(two + "12-34 in 12-34, " + rest, 1, "door 12-34");
        makes(two + "7-7 in 7-7, " + rest, 1, "door 07-7");
        makes(two + "0-9 in 0-9, 10-10 in 10-10, 40-40 in 40-40, 0-0 in 0-0, " + rest, 4,
                "door 0-9;door 10-10;door 40-40;door 0-00");
        wrong("door", 4);
        wrong("door ", 5);
        wrong("door 1", 6);
        wrong("door 1-", 7);
        wrong("door1-2", 4);
        wrong("door-1-2", 4);
        wrong("door -1-2", 5);
        wrong("door  1-2", 5);
        wrong("door 1 -2", 6);
        wrong("door 1- 2", 7);
        wrong("door 1 2", 6);
        wrong("door 1-2 ", 8);
        wrong("door 1-2-3", 8);
        wrong("doors 1-2", 4);
        wrong("Door 1-2", 0);
        wrong("doop 1-2", 3);
    }

    private void frameAndNarrow() {
        String rest = ", 0:0<1+3, passes 0, changes 0";
        makes("0-40 in 0-40, 1-39 in 1-39" + rest, 1, "frame 1 1-39");
        makes("8-9 in 8-9, 5-35 in 5-35" + rest, 1, "frame 0 08-9");
        makes("0-40 in 0-40, 10-20 in 5-35" + rest, 1, "narrow 1 10-20");
        makes("7-40 in 0-40, 5-35 in 5-35" + rest, 1, "narrow 0 7-40");
        makes("0-0 in 0-40, 5-35 in 5-35" + rest, 1, "narrow 0 0-0");
        makes("0-40 in 0-40, 0-40 in 0-40" + rest, 3, "narrow 0 10-20;narrow 1 9-9;frame 1 0-40");
        makes("7-7 in 7-9, 8-8 in 5-35" + rest, 3, "frame 0 7-9;narrow 1 8-8;narrow 0 5-7");
        for (String verb : new String[] {"frame", "narrow"}) {
            int length = verb.length();
            wrong(verb, length);
            wrong(verb + " ", length + 1);
            wrong(verb + " 0", length + 2);
            wrong(verb + " 0 ", length + 3);
            wrong(verb + " 0 1", length + 4);
            wrong(verb + " 0 1-", length + 5);
            wrong(verb + "0 1-2", length);
            wrong(verb + "  0 1-2", length + 1);
            wrong(verb + " 0  1-2", length + 3);
            wrong(verb + " 0-1-2", length + 2);
            wrong(verb + " 00 1-2", length + 2);
            wrong(verb + " 0 1 2", length + 4);
            wrong(verb + " 0 1-2 ", length + 6);
            wrong(verb + " x 1-2", length + 1);
        }
    }

    private void constraint() {
        LintelBrothers x = Scenes.full("").make();
        for (int id = 1; id <= 4; id++) {
            x.removeConstraint(id);
        }
        same(3, () -> Scenes.run(x, "0<5+7;5=0+20;3#4+09"));
        same("6 7 8 9 10 11 12 13 14", () -> Look.ids(x));
        same("0<5 7, 5=0 20, 3#4 9", () -> x.firstOf(12) + "" + x.kindOf(12) + x.secondOf(12) + " " + x.gapOf(12) + ", "
                + x.firstOf(13) + x.kindOf(13) + x.secondOf(13) + " " + x.gapOf(13) + ", "
                + x.firstOf(14) + x.kindOf(14) + x.secondOf(14) + " " + x.gapOf(14));
        makes("0-40 in 0-40, 5-35 in 5-35, 0:0<1+3, 1:1=0+0, passes 0, changes 0", 1, "1=0+0");
        wrong("0", 1);
        wrong("0<", 2);
        wrong("0<1", 3);
        wrong("0<1+", 4);
        wrong("00<1+1", 1);
        wrong("0<01+1", 3);
        wrong("0 <1+1", 1);
        wrong("0< 1+1", 2);
        wrong("0<1 +1", 3);
        wrong("0<1+ 1", 4);
        wrong("0<1+-1", 4);
        wrong("0<1-1", 3);
        wrong("0<1+1 ", 5);
        wrong("a<1+1", 0);
        wrong("0<a+1", 2);
        wrong("<1+1", 0);
    }

    private void drop() {
        makes("0-40 in 0-40, 5-35 in 5-35, passes 0, changes 0", 1, "drop 0");
        makes("0-40 in 0-40, 5-35 in 5-35, passes 1, changes 1", 2, "pass;drop 00");
        LintelBrothers x = Scenes.full("").make();
        same(1, () -> Scenes.run(x, "drop 10"));
        same("1 2 3 4 6 7 8 9 11", () -> Look.ids(x));
        same(2, () -> Scenes.run(x, "drop 01;drop 9"));
        same("2 3 4 6 7 8 11", () -> Look.ids(x));
        wrong("drop", 4);
        wrong("drop ", 5);
        wrong("drop0", 4);
        wrong("drop  0", 5);
        wrong("drop -1", 5);
        wrong("drop 0 ", 6);
        wrong("drop x", 5);
        wrong("dr0p 0", 2);
    }

    private void withoutNumbers() {
        makes("0-32 in 0-40, 5-35 in 5-35, 0:0<1+3, passes 1, changes 1", 1, "pass");
        makes("0-32 in 0-40, 5-35 in 5-35, 0:0<1+3, passes 2, changes 1", 1, "settle");
        makes("0-40 in 0-40, 5-35 in 5-35, 0:0<1+3, passes 1, changes 1", 2, "pass;reset");
        for (String verb : new String[] {"pass", "settle", "reset"}) {
            wrong(verb + " 1", verb.length());
            wrong(verb + "1", verb.length());
            wrong(verb + " ", verb.length());
            wrong(verb.substring(0, verb.length() - 1), verb.length() - 1);
        }
    }

    private void digits() {
        String[] inputs = {"door N-40", "door 1-N", "frame 1 N-40", "frame 1 1-N", "narrow 0 N-40", "narrow 0 1-N",
            "0<1+N", "0=1+N", "0#1+N", "drop N"};
        for (String input : inputs) {
            int place = input.indexOf('N');
            for (String number : new String[] {"0", "1", "9", "00", "07", "10", "40", "41", "99"}) {
                LintelBrothers x = SCENE.make();
                same(input + number, false, () -> Check.answer(() -> Scenes.run(x, input.replace("N", number)))
                        .equals("throws.IllegalArgumentException"));
            }
            wrong(input.replace("N", ""), place);
            wrong(input.replace("N", "000"), place + 2);
            wrong(input.replace("N", "123"), place + 2);
            wrong(input.replace("N", "1234"), place + 2);
            wrong("pass;" + input.replace("N", "007") + ";x", place + 7);
        }
    }

    /** Every beginning of a right input, with every character behind it. */
    private void offsets() {
        String[] inputs = {"door 12-34", "frame 0 12-34", "narrow 1 12-34", "0<1+12", "1=0+1", "0#1+12", "drop 12",
            "pass", "settle", "reset", "door 1-2;drop 0", "reset;1#0+5;pass", "0<1+1;settle"};
        LintelBrothers x = SCENE.make();
        int calls = 0;
        for (String input : inputs) {
            for (int length = 0; length <= input.length(); length++) {
                for (int code = 31; code <= 126; code++) {
                    String tried = input.substring(0, length) + (code == 31 ? "" : (char) code);
                    if (calls > 400) {
                        x = SCENE.make();
                        calls = 0;
                    }
                    calls += tried.length() + 2;
                    offset(x, tried);
                }
            }
        }
        wrong("x", 0);
        wrong("pass;drop 1;x", 12);
        wrong("drip 1", 2);
        wrong("resettle", 5);
        wrong("door 0-5;door 5-4;0>1+1;x", 19);
        wrong("000000000000000000000000000000000000000000000000000000000000", 1);
        wrong("door 0-1;door 0-1;door 0-1;door 0-1;door 0-1;door 0-1;door 0", 60);
    }

    private void offset(LintelBrothers x, String input) {
        int due = Model.offsetOf(input);
        Object answer = Check.answer(() -> Scenes.run(x, input));
        boolean isWrong = answer.equals("throws.IllegalArgumentException");
        same(input, due >= 0, () -> isWrong);
        if (due >= 0) {
            same(input, due, x::syntaxErrorOffset);
        }
    }
}
