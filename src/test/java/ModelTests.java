import java.lang.reflect.InvocationTargetException;
import java.lang.reflect.Method;
import java.util.ArrayList;
import java.util.List;

/** Long runs of calls, made on an object and on the model; each answer must be the same. */
public final class ModelTests {
    private static final int RUNS = 1500;
    private static final int CALLS = 512;
    private static final int MOST_PRINTED = 20;

    private static int wrong;
    private static int compared;
    private static int leftOut;

    private final Numbers numbers;
    private final LintelBrothers object = new LintelBrothers();
    private final Model model = new Model();
    private final List<String> made = new ArrayList<>();
    private final int mostHeights;
    private final int mostGap;

    /** The same numbers in each run of the tests, for a failure must come again. */
    private static final class Numbers {
        private long state;

        Numbers(long seed) {
            state = seed;
        }

        int below(int bound) {
            state = state * 6364136223846793005L + 1442695040888963407L;
            return (int) ((state >>> 33) % bound);
        }

        boolean oneIn(int cases) {
            return below(cases) == 0;
        }
    }

    private ModelTests(long seed) {
        numbers = new Numbers(seed);
        mostHeights = new int[] {3, 9, 20, 41}[numbers.below(4)];
        mostGap = new int[] {3, 8, 21}[numbers.below(3)];
    }

    public static void main(String[] args) {
        TimeLimit.start();
        for (int run = 0; run < RUNS && wrong < MOST_PRINTED; run++) {
            new ModelTests(run * 7919L + 1).run();
        }
        System.out.println("ModelTests: " + compared + " answers, " + leftOut + " left out, " + wrong + " wrong");
        if (wrong != 0) {
            System.exit(1);
        }
    }

    private void run() {
        while (made.size() < CALLS && wrong < MOST_PRINTED) {
            change();
            for (int question = 0; question < 4; question++) {
                ask();
            }
        }
    }

    /** An object is used for so many calls and no more; those that are asked for beyond that are not made. */
    private void call(String name, Object... arguments) {
        if (made.size() == CALLS) {
            return;
        }
        made.add(name + List.of(arguments));
        Object due = answer(model, name, arguments);
        Object got = answer(object, name, arguments);
        if ("TooManyTries".equals(due)) {
            leftOut++;
            return;
        }
        compared++;
        if (!due.equals(got)) {
            wrong++;
            System.out.println(got + " is answered, due is " + due + ", at the end of " + made);
        }
    }

    private static Object answer(Object target, String name, Object... arguments) {
        Class<?>[] types = new Class<?>[arguments.length];
        for (int at = 0; at < types.length; at++) {
            types[at] = arguments[at] instanceof Character ? char.class : int.class;
        }
        try {
            Method method = target.getClass().getMethod(name, types);
            return method.invoke(target, arguments);
        } catch (InvocationTargetException thrown) {
            return thrown.getCause().getClass().getSimpleName();
        } catch (ReflectiveOperationException missing) {
            throw new IllegalStateException(missing);
        }
    }

    private int odd(int usual, int least, int most) {
        if (!numbers.oneIn(25)) {
            return usual;
        }
        int[] odd = {least - 1, most + 1, Integer.MIN_VALUE, Integer.MAX_VALUE, least, most};
        return odd[numbers.below(odd.length)];
    }

    private int door() {
        return odd(numbers.below(Math.max(1, model.doorCount())), 0, 6);
    }

    private int low() {
        return odd(numbers.below(Math.max(1, 41 - mostHeights + 1)), 0, 40);
    }

    private int high(int low) {
        return odd(Math.min(40, low + numbers.below(mostHeights)), 0, 40);
    }

    private int gap() {
        return odd(numbers.below(mostGap), 0, 20);
    }

    private int id() {
        int count = model.constraintCount();
        int usual = count > 0 ? model.constraintAt(numbers.below(count)) : 0;
        return odd(usual, 0, usual + 1);
    }

    private char kind() {
        return numbers.oneIn(30) ? (char) numbers.below(128) : "<=##<".charAt(numbers.below(5));
    }

    private void change() {
        int low = low();
        switch (numbers.below(20)) {
            case 0, 1, 2 -> call("addDoor", low, high(low));
            case 3 -> call("setFrame", door(), low, high(low));
            case 4, 5 -> narrow(low);
            case 6 -> call("reset");
            case 7, 8, 9, 10 -> call("addConstraint", kind(), door(), door(), gap());
            case 11 -> call("removeConstraint", id());
            case 12, 13 -> call("pass");
            case 14 -> call("settle");
            case 15 -> call("undo");
            case 16 -> call(numbers.oneIn(3) ? "restoreSnapshot" : "saveSnapshot");
            case 17 -> call("appendInput", (char) numbers.below(140));
            default -> execute();
        }
    }

    private void narrow(int low) {
        int door = door();
        if (door < 0 || door >= model.doorCount() || numbers.oneIn(4)) {
            call("narrow", door, low, high(low));
        } else {
            int nearLow = Math.max(0, model.lowOf(door) + numbers.below(5) - 2);
            call("narrow", door, nearLow, high(nearLow));
        }
    }

    private void execute() {
        StringBuilder input = new StringBuilder();
        int commands = 1 + numbers.below(4);
        for (int command = 0; command < commands; command++) {
            input.append(command > 0 ? ";" : "").append(command());
        }
        if (numbers.oneIn(4)) {
            input.setCharAt(numbers.below(input.length()), "0123456789;-+ <=#drfnpsx".charAt(numbers.below(24)));
        }
        if (numbers.oneIn(8)) {
            input.setLength(numbers.below(input.length()));
        }
        for (int index = 0; index < input.length(); index++) {
            call("appendInput", input.charAt(index));
        }
        call("execute");
        call("rejectionReason");
        call("rejectionDetail");
        call("causeReason");
        call("syntaxErrorOffset");
    }

    private String command() {
        int low = numbers.below(41);
        int high = numbers.oneIn(10) ? numbers.below(60) : Math.min(40, low + numbers.below(mostHeights));
        String range = low + "-" + high;
        int door = numbers.below(Math.max(1, model.doorCount()) + (numbers.oneIn(8) ? 1 : 0));
        int other = numbers.below(Math.max(1, model.doorCount()));
        return switch (numbers.below(8)) {
            case 0 -> "door " + range;
            case 1 -> "frame " + door + " " + range;
            case 2 -> "narrow " + door + " " + range;
            case 3, 4 -> door + "" + "<=#".charAt(numbers.below(3)) + other + "+" + numbers.below(mostGap + 1);
            case 5 -> "drop " + Math.max(0, Math.min(99, id()));
            case 6 -> numbers.oneIn(2) ? "pass" : "settle";
            default -> "reset";
        };
    }

    private void ask() {
        int door = door();
        switch (numbers.below(16)) {
            case 0 -> callAll(door, "lowOf", "highOf", "frameLow", "frameHigh", "widthOf", "isFixed");
            case 1 -> callAll(door, "constraintsOf", "doorByWidth", "writeDoor");
            case 2 -> callAll(id(), "kindOf", "firstOf", "secondOf", "gapOf", "writeConstraint");
            case 3, 4 -> callAll(id(), "isSafe", "isBroken");
            case 5 -> callAll(odd(numbers.below(10), 0, 9), "constraintAt", "constraintByGap", "outputAt");
            case 6 -> callEach("isSettled", "wouldChange", "passCount", "changeCount");
            case 7 -> callAll(door, "lowestHeight", "lowestHeightByPaths");
            case 8 -> callEach("hasPeace", "peaceSum");
            case 9, 10 -> callAll(door, "peaceHeight");
            case 11, 12 -> possible(door);
            case 13 -> callEach("doorCount", "constraintCount", "fixedCount", "totalWidth", "totalFrameWidth");
            case 14 -> callEach("meanWidth", "fixedShare", "isConsistent");
            default -> callEach("rejectionReason", "rejectionDetail", "causeReason", "syntaxErrorOffset");
        }
    }

    private void possible(int door) {
        int other = door();
        boolean known = door >= 0 && door < model.doorCount() && other >= 0 && other < model.doorCount();
        int height = known ? model.lowOf(door) + numbers.below(model.widthOf(door) + 1) : numbers.below(41);
        int otherHeight = known ? model.lowOf(other) + numbers.below(model.widthOf(other) + 1) : numbers.below(41);
        call("arePossible", door, odd(height, 0, 40), other, odd(otherHeight, 0, 40));
    }

    private void callAll(int argument, String... names) {
        for (String name : names) {
            call(name, argument);
        }
    }

    private void callEach(String... names) {
        for (String name : names) {
            call(name);
        }
    }
}
