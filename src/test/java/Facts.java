import java.util.LinkedHashMap;
import java.util.Map;

/** All that the calls of an object tell, by name. Each fact has an object of its own, for some are told by changes. */
final class Facts {
    static final String DATA = "the data";
    static final String ANSWERS = "the answers";
    static final String SNAPSHOT = "the snapshot";
    static final String REJECTION = "the latest rejection";
    static final String CAUSE = "the cause of the latest rejection";
    static final String SYNTAX_ERROR = "the latest syntax error";
    static final String OUTPUT = "the output";
    static final String INPUT_LENGTH = "the length of the input";
    static final String INPUT = "what the input executes";
    static final int MORE_THAN_CAN_BE_UNDONE = 9;
    private static final int MORE_THAN_THE_INPUT = 61;

    private Facts() {
    }

    static Map<String, String> of(Scene scene) {
        Map<String, String> facts = new LinkedHashMap<>();
        facts.put(DATA, Look.data(scene.make()));
        facts.put(ANSWERS, answers(scene.make()));
        facts.put(OUTPUT, Look.output(scene.make()));
        facts.put(REJECTION, Look.rejection(scene.make()));
        facts.put(CAUSE, "" + Check.answer(() -> scene.make().causeReason()));
        facts.put(SYNTAX_ERROR, "" + Check.answer(() -> scene.make().syntaxErrorOffset()));
        facts.put(INPUT_LENGTH, "" + inputLength(scene.make()));
        facts.put(INPUT, executed(scene.make()));
        facts.put("the next id", nextId(scene.make()));
        for (int times = 1; times <= MORE_THAN_CAN_BE_UNDONE; times++) {
            facts.put(undoneTimes(times), undone(scene.make(), times));
        }
        facts.put(SNAPSHOT, restored(scene.make()));
        return facts;
    }

    /** The name of the fact what the data are after so many calls of undo. */
    static String undoneTimes(int times) {
        return times + " times undone";
    }

    /** What is found out from the data. */
    private static String answers(LintelBrothers x) {
        StringBuilder seen = new StringBuilder();
        seen.append(x.isSettled()).append(' ').append(Check.answer(x::wouldChange)).append(' ');
        seen.append(x.isConsistent()).append(' ').append(Look.peace(x));
        seen.append(' ').append(x.totalWidth()).append(' ').append(x.fixedCount());
        for (int door = 0; door < x.doorCount(); door++) {
            int at = door;
            seen.append(' ').append(Check.answer(() -> x.lowestHeight(at)));
            seen.append(' ').append(Check.answer(() -> x.lowestHeightByPaths(at)));
            seen.append(' ').append(x.doorByWidth(door));
        }
        for (int position = 0; position < x.constraintCount(); position++) {
            int id = x.constraintByGap(position);
            seen.append(' ').append(id).append(x.isSafe(id)).append(x.isBroken(id));
        }
        return seen.toString();
    }

    static int inputLength(LintelBrothers x) {
        int room = 0;
        while (room < MORE_THAN_THE_INPUT && Check.answer(() -> x.appendInput('z')) instanceof Integer) {
            room++;
        }
        return 60 - room;
    }

    /** What the input does; the latest rejection and the latest syntax error only if they come from it. */
    private static String executed(LintelBrothers x) {
        Object answer = Check.answer(x::execute);
        String reason = "";
        if (answer.equals(Check.thrownName(UnsupportedOperationException.class))) {
            reason = Look.rejection(x) + " " + Check.answer(x::causeReason);
        }
        if (answer.equals(Check.thrownName(IllegalArgumentException.class))) {
            reason = "" + Check.answer(x::syntaxErrorOffset);
        }
        return answer + " " + reason + ", " + Look.data(x);
    }

    /** Makes room, adds doors and adds the first constraint that is not there, to see its id. */
    static String nextId(LintelBrothers x) {
        if (x.constraintCount() == 10) {
            x.removeConstraint(x.constraintAt(0));
        }
        for (int doors = x.doorCount(); doors < 2; doors++) {
            x.addDoor(0, 40);
        }
        for (int gap = 0; gap <= 20; gap++) {
            int tried = gap;
            Object id = Check.answer(() -> x.addConstraint('<', 0, 1, tried));
            if (id instanceof Integer) {
                return id.toString();
            }
        }
        return "none";
    }

    private static String undone(LintelBrothers x, int times) {
        StringBuilder seen = new StringBuilder();
        for (int time = 0; time < times; time++) {
            seen.append(Check.answer(x::undo)).append(' ');
        }
        return seen.append(Look.data(x)).append(", next id ").append(nextId(x)).toString();
    }

    private static String restored(LintelBrothers x) {
        Object answer = Check.answer(x::restoreSnapshot);
        Object undone = Check.answer(x::undo);
        return answer + ", " + undone + ", " + Look.data(x) + ", next id " + nextId(x);
    }
}
