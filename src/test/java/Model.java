import java.util.ArrayDeque;
import java.util.ArrayList;
import java.util.Comparator;
import java.util.Deque;
import java.util.List;
import java.util.NoSuchElementException;
import java.util.regex.Matcher;
import java.util.regex.Pattern;

/**
 * The same calls as LintelBrothers, made from the document a second time and in the plainest way, to be compared
 * with it: states are copied whole, a peace is found by trying heights, and commands are read by a pattern.
 */
public final class Model {
    private static final class Door {
        int frameLow;
        int frameHigh;
        int low;
        int high;

        Door copy() {
            Door copy = new Door();
            copy.frameLow = frameLow;
            copy.frameHigh = frameHigh;
            copy.low = low;
            copy.high = high;
            return copy;
        }

        int width() {
            return high - low + 1;
        }
    }

    private record Constraint(int id, char kind, int first, int second, int gap) {
    }

    private static final class State {
        List<Door> doors = new ArrayList<>();
        List<Constraint> constraints = new ArrayList<>();
        int nextId;
        int passes;
        int changes;

        State copy() {
            State copy = new State();
            for (Door door : doors) {
                copy.doors.add(door.copy());
            }
            copy.constraints.addAll(constraints);
            copy.nextId = nextId;
            copy.passes = passes;
            copy.changes = changes;
            return copy;
        }
    }

    /** How many heights a search tries at the most before it gives up without an answer. */
    private static final int MOST_TRIES = 300_000;
    private static final String NUMBER = "\\d\\d?";
    private static final String RANGE = NUMBER + "-" + NUMBER;
    private static final String COMMAND = "(?:door " + RANGE + "|frame \\d " + RANGE + "|narrow \\d " + RANGE
            + "|\\d[<=#]\\d\\+" + NUMBER + "|drop " + NUMBER + "|pass|settle|reset)";
    private static final Pattern COMMANDS = Pattern.compile(COMMAND + "(?:;" + COMMAND + ")*");

    private State state = new State();
    private final Deque<State> earlier = new ArrayDeque<>();
    private State snapshot;
    private String input = "";
    private String output = "";
    private Integer syntaxOffset;
    private Integer reason;
    private Integer detail;
    private Integer cause;
    private int tries;

    private static void must(boolean right, RuntimeException otherwise) {
        if (!right) {
            throw otherwise;
        }
    }

    private Door door(int index) {
        must(index >= 0 && index < state.doors.size(), new IndexOutOfBoundsException());
        return state.doors.get(index);
    }

    private Constraint constraint(int id) {
        for (Constraint constraint : state.constraints) {
            if (constraint.id == id) {
                return constraint;
            }
        }
        throw new NoSuchElementException();
    }

    private static void range(int low, int high) {
        must(low >= 0 && low <= 40 && high >= low && high <= 40, new IllegalArgumentException());
    }

    private void reject(boolean wrong, int newReason, int newDetail) {
        if (wrong) {
            reason = newReason;
            detail = newDetail;
            cause = null;
            throw new UnsupportedOperationException();
        }
    }

    private void remember() {
        remember(state.copy());
    }

    private void remember(State old) {
        earlier.push(old);
        if (earlier.size() > 8) {
            earlier.removeLast();
        }
    }

    private static int openAll(State of) {
        int different = 0;
        for (Door door : of.doors) {
            different += door.low == door.frameLow ? 0 : 1;
            different += door.high == door.frameHigh ? 0 : 1;
            door.low = door.frameLow;
            door.high = door.frameHigh;
        }
        return different;
    }

    public int addDoor(int low, int high) {
        range(low, high);
        reject(state.doors.size() == 6, 1, 6);
        remember();
        Door door = new Door();
        door.frameLow = low;
        door.low = low;
        door.frameHigh = high;
        door.high = high;
        state.doors.add(door);
        return state.doors.size() - 1;
    }

    public int setFrame(int door, int low, int high) {
        door(door);
        range(low, high);
        remember();
        door(door).frameLow = low;
        door(door).frameHigh = high;
        return openAll(state);
    }

    public int narrow(int door, int low, int high) {
        Door narrowed = door(door);
        range(low, high);
        boolean some = false;
        for (int height = low; height <= high; height++) {
            some |= height >= narrowed.low && height <= narrowed.high;
        }
        reject(!some, 4, narrowed.low);
        remember();
        int different = (low > narrowed.low ? 1 : 0) + (high < narrowed.high ? 1 : 0);
        narrowed.low = Math.max(low, narrowed.low);
        narrowed.high = Math.min(high, narrowed.high);
        return different;
    }

    public int reset() {
        remember();
        return openAll(state);
    }

    public int doorCount() {
        return state.doors.size();
    }

    public int lowOf(int door) {
        return door(door).low;
    }

    public int highOf(int door) {
        return door(door).high;
    }

    public int frameLow(int door) {
        return door(door).frameLow;
    }

    public int frameHigh(int door) {
        return door(door).frameHigh;
    }

    public int widthOf(int door) {
        return door(door).width();
    }

    public boolean isFixed(int door) {
        return door(door).width() == 1;
    }

    public int constraintsOf(int door) {
        door(door);
        return (int) state.constraints.stream().filter(c -> c.first == door || c.second == door).count();
    }

    public int addConstraint(char kind, int first, int second, int gap) {
        door(first);
        door(second);
        must("<=#".indexOf(kind) >= 0, new IllegalArgumentException());
        must(gap >= 0 && gap <= 20 && !(gap == 0 && kind == '#'), new IllegalArgumentException());
        must(first != second, new IllegalArgumentException());
        if (state.constraints.size() == 10) {
            reject(true, 2, state.constraints.get(0).id);
        }
        for (Constraint other : state.constraints) {
            reject(other.equals(new Constraint(other.id, kind, first, second, gap)), 3, other.id);
        }
        remember();
        state.constraints.add(new Constraint(state.nextId, kind, first, second, gap));
        return state.nextId++;
    }

    public int removeConstraint(int id) {
        Constraint gone = constraint(id);
        remember();
        state.constraints.remove(gone);
        openAll(state);
        return state.constraints.size();
    }

    public int constraintCount() {
        return state.constraints.size();
    }

    public int constraintAt(int position) {
        must(position >= 0 && position < state.constraints.size(), new NoSuchElementException());
        return state.constraints.get(position).id;
    }

    public char kindOf(int id) {
        return constraint(id).kind;
    }

    public int firstOf(int id) {
        return constraint(id).first;
    }

    public int secondOf(int id) {
        return constraint(id).second;
    }

    public int gapOf(int id) {
        return constraint(id).gap;
    }

    static boolean isMet(char kind, int first, int second, int gap) {
        return switch (kind) {
            case '<' -> first + gap <= second;
            case '=' -> first + gap == second;
            default -> Math.abs(first - second) >= gap;
        };
    }

    /** Counts the pairs of heights within the bounds that satisfy the constraint. */
    private int metPairs(Constraint c) {
        int met = 0;
        for (int first = door(c.first).low; first <= door(c.first).high; first++) {
            for (int second = door(c.second).low; second <= door(c.second).high; second++) {
                met += isMet(c.kind, first, second, c.gap) ? 1 : 0;
            }
        }
        return met;
    }

    public boolean isSafe(int id) {
        Constraint c = constraint(id);
        return metPairs(c) == door(c.first).width() * door(c.second).width();
    }

    public boolean isBroken(int id) {
        return metPairs(constraint(id)) == 0;
    }

    /** Makes a pass on a state; returns the id of the constraint with a conflict, or -1. */
    private static int makePass(State on, String kinds) {
        for (Constraint c : on.constraints) {
            if (kinds.indexOf(c.kind) >= 0) {
                Door first = on.doors.get(c.first);
                Door second = on.doors.get(c.second);
                if (c.kind == '#') {
                    apartSteps(on, first, second, c.gap);
                    apartSteps(on, second, first, c.gap);
                } else {
                    lowerSteps(on, first, second, c.gap);
                }
                if (c.kind == '=') {
                    exactSteps(on, first, second, c.gap);
                }
                if (first.low > first.high || second.low > second.high) {
                    return c.id;
                }
            }
        }
        on.passes++;
        return -1;
    }

    private static void lowerSteps(State on, Door first, Door second, int gap) {
        if (second.low < first.low + gap) {
            second.low = first.low + gap;
            on.changes++;
        }
        if (first.high > second.high - gap) {
            first.high = second.high - gap;
            on.changes++;
        }
    }

    private static void exactSteps(State on, Door first, Door second, int gap) {
        if (first.low < second.low - gap) {
            first.low = second.low - gap;
            on.changes++;
        }
        if (second.high > first.high + gap) {
            second.high = first.high + gap;
            on.changes++;
        }
    }

    private static void apartSteps(State on, Door fixed, Door other, int gap) {
        int h = fixed.low;
        if (fixed.width() == 1 && other.low > h - gap && other.low < h + gap) {
            other.low = h + gap;
            on.changes++;
        }
        if (fixed.width() == 1 && other.high > h - gap && other.high < h + gap) {
            other.high = h - gap;
            on.changes++;
        }
    }

    /** Makes passes on a state until nothing changes; returns the id of a constraint with a conflict, or -1. */
    private static int makePasses(State on, String kinds) {
        int changes;
        do {
            changes = on.changes;
            int conflict = makePass(on, kinds);
            if (conflict >= 0) {
                return conflict;
            }
        } while (on.changes > changes);
        return -1;
    }

    public int pass() {
        State after = state.copy();
        int conflict = makePass(after, "<=#");
        reject(conflict >= 0, 5, conflict);
        remember();
        int changes = after.changes - state.changes;
        state = after;
        return changes;
    }

    public int settle() {
        State after = state.copy();
        int conflict = makePasses(after, "<=#");
        reject(conflict >= 0, 5, conflict);
        remember();
        int passes = after.passes - state.passes;
        state = after;
        return passes;
    }

    public boolean isSettled() {
        State after = state.copy();
        return makePass(after, "<=#") < 0 && after.changes == state.changes;
    }

    public int wouldChange() {
        State after = state.copy();
        must(makePass(after, "<=#") < 0, new NoSuchElementException());
        return after.changes - state.changes;
    }

    public int lowestHeight(int door) {
        door(door);
        State after = state.copy();
        must(makePasses(after, "<=") < 0, new NoSuchElementException());
        return after.doors.get(door).low;
    }

    public int lowestHeightByPaths(int door) {
        return lowestHeight(door);
    }

    public int passCount() {
        return state.passes;
    }

    public int changeCount() {
        return state.changes;
    }

    /** The heights of the first peace, or null; throws an Error if there are too many to try. */
    private int[] firstPeace(int[] low, int[] high) {
        int[] heights = new int[low.length];
        tries = 0;
        return tryHeights(0, heights, low, high) ? heights : null;
    }

    private boolean tryHeights(int door, int[] heights, int[] low, int[] high) {
        if (door == heights.length) {
            return true;
        }
        for (int height = low[door]; height <= high[door]; height++) {
            tries++;
            if (tries > MOST_TRIES) {
                throw new TooManyTries();
            }
            heights[door] = height;
            if (mayBeMet(door, heights, low, high) && tryHeights(door + 1, heights, low, high)) {
                return true;
            }
        }
        return false;
    }

    static final class TooManyTries extends Error {
        private static final long serialVersionUID = 1L;
    }

    /** Tells whether each constraint is met by the doors up to this one, or by some heights of the later ones. */
    private boolean mayBeMet(int door, int[] heights, int[] low, int[] high) {
        for (Constraint c : state.constraints) {
            boolean met = false;
            int firstLow = c.first <= door ? heights[c.first] : low[c.first];
            int firstHigh = c.first <= door ? heights[c.first] : high[c.first];
            int secondLow = c.second <= door ? heights[c.second] : low[c.second];
            int secondHigh = c.second <= door ? heights[c.second] : high[c.second];
            for (int first = firstLow; first <= firstHigh && !met; first++) {
                for (int second = secondLow; second <= secondHigh && !met; second++) {
                    met = isMet(c.kind, first, second, c.gap);
                }
            }
            if (!met) {
                return false;
            }
        }
        return true;
    }

    private int[] firstPeace() {
        return firstPeace(state.doors.stream().mapToInt(d -> d.low).toArray(),
                state.doors.stream().mapToInt(d -> d.high).toArray());
    }

    public boolean hasPeace() {
        return firstPeace() != null;
    }

    public int peaceHeight(int door) {
        door(door);
        int[] peace = firstPeace();
        must(peace != null, new NoSuchElementException());
        return peace[door];
    }

    public int peaceSum() {
        int[] peace = firstPeace();
        must(peace != null, new NoSuchElementException());
        int sum = 0;
        for (int height : peace) {
            sum += height;
        }
        return sum;
    }

    public boolean arePossible(int first, int height, int second, int otherHeight) {
        door(first);
        door(second);
        range(Math.min(height, otherHeight), Math.max(height, otherHeight));
        int[] low = state.doors.stream().mapToInt(d -> d.low).toArray();
        int[] high = state.doors.stream().mapToInt(d -> d.high).toArray();
        low[first] = Math.max(low[first], height);
        high[first] = Math.min(high[first], height);
        low[second] = Math.max(low[second], otherHeight);
        high[second] = Math.min(high[second], otherHeight);
        return low[first] <= high[first] && low[second] <= high[second] && firstPeace(low, high) != null;
    }

    public int doorByWidth(int position) {
        List<Integer> order = new ArrayList<>();
        for (int door = 0; door < state.doors.size(); door++) {
            order.add(door);
        }
        order.sort(Comparator.<Integer>comparingInt(d -> door(d).width())
                .thenComparingInt(d -> -constraintsOf(d)).thenComparingInt(d -> d));
        must(position >= 0 && position < order.size(), new NoSuchElementException());
        return order.get(position);
    }

    public int constraintByGap(int position) {
        List<Constraint> order = new ArrayList<>(state.constraints);
        order.sort(Comparator.<Constraint>comparingInt(c -> -c.gap).thenComparingInt(c -> c.id));
        must(position >= 0 && position < order.size(), new NoSuchElementException());
        return order.get(position).id;
    }

    public int fixedCount() {
        return (int) state.doors.stream().filter(d -> d.low == d.high).count();
    }

    public int totalWidth() {
        return state.doors.stream().mapToInt(Door::width).sum();
    }

    public int totalFrameWidth() {
        return state.doors.stream().mapToInt(d -> d.frameHigh - d.frameLow + 1).sum();
    }

    public double meanWidth() {
        must(doorCount() > 0, new ArithmeticException());
        return (double) totalWidth() / (double) doorCount();
    }

    public float fixedShare() {
        must(doorCount() > 0, new ArithmeticException());
        return (float) fixedCount() / (float) doorCount();
    }

    public boolean isConsistent() {
        return true;
    }

    public int writeDoor(int index) {
        Door door = door(index);
        output = index + "[" + door.low + (isFixed(index) ? "" : ".." + door.high) + "]"
                + (door.low == door.frameLow && door.high == door.frameHigh ? "" : "*");
        return output.length();
    }

    public int writeConstraint(int id) {
        Constraint c = constraint(id);
        output = id + ":" + c.first + c.kind + c.second + (c.gap == 0 ? "" : "+" + c.gap);
        return output.length();
    }

    public char outputAt(int index) {
        must(index >= 0 && index < output.length(), new IndexOutOfBoundsException());
        return output.charAt(index);
    }

    public int appendInput(char character) {
        must(character >= 32 && character <= 126, new IllegalArgumentException());
        must(input.length() < 60, new IllegalStateException());
        input += character;
        return input.length();
    }

    public int execute() {
        String read = input;
        input = "";
        if (!COMMANDS.matcher(read).matches()) {
            syntaxOffset = errorOffset(read);
            throw new IllegalArgumentException();
        }
        State before = state.copy();
        Deque<State> kept = new ArrayDeque<>(earlier);
        String[] commands = read.split(";");
        for (int number = 0; number < commands.length; number++) {
            RuntimeException thrown = run(commands[number]);
            if (thrown != null) {
                takeBack(before, kept);
                must(thrown instanceof UnsupportedOperationException, new IllegalStateException());
                int its = reason;
                reason = 6;
                detail = number;
                cause = its;
                throw thrown;
            }
        }
        earlier.clear();
        earlier.addAll(kept);
        remember(before);
        return commands.length;
    }

    private void takeBack(State before, Deque<State> kept) {
        state = before;
        earlier.clear();
        earlier.addAll(kept);
    }

    /** The offset of the syntax error, or -1 if there is none. */
    static int offsetOf(String read) {
        return COMMANDS.matcher(read).matches() ? -1 : errorOffset(read);
    }

    /** The first index at which no input begins like this one any more. */
    private static int errorOffset(String read) {
        for (int length = 1; length <= read.length(); length++) {
            Matcher matcher = COMMANDS.matcher(read.substring(0, length));
            if (!matcher.matches() && !matcher.hitEnd()) {
                return length - 1;
            }
        }
        return read.length();
    }

    private RuntimeException run(String command) {
        String[] words = command.split("\\D+");
        List<Integer> numbers = new ArrayList<>();
        for (String word : words) {
            if (!word.isEmpty()) {
                numbers.add(Integer.parseInt(word));
            }
        }
        try {
            run(command, numbers);
            return null;
        } catch (RuntimeException thrown) {
            return thrown;
        }
    }

    private void run(String command, List<Integer> numbers) {
        switch (command.split(" ")[0]) {
            case "door" -> addDoor(numbers.get(0), numbers.get(1));
            case "frame" -> setFrame(numbers.get(0), numbers.get(1), numbers.get(2));
            case "narrow" -> narrow(numbers.get(0), numbers.get(1), numbers.get(2));
            case "drop" -> removeConstraint(numbers.get(0));
            case "pass" -> pass();
            case "settle" -> settle();
            case "reset" -> reset();
            default -> addConstraint(command.charAt(1), numbers.get(0), numbers.get(1), numbers.get(2));
        }
    }

    private static int known(Integer value) {
        must(value != null, new NoSuchElementException());
        return value;
    }

    public int syntaxErrorOffset() {
        return known(syntaxOffset);
    }

    public int rejectionReason() {
        return known(reason);
    }

    public int rejectionDetail() {
        return known(detail);
    }

    public int causeReason() {
        return known(cause);
    }

    public int undo() {
        must(!earlier.isEmpty(), new IllegalStateException());
        state = earlier.pop();
        return earlier.size();
    }

    public int saveSnapshot() {
        snapshot = state.copy();
        return doorCount();
    }

    public int restoreSnapshot() {
        must(snapshot != null, new IllegalStateException());
        state = snapshot.copy();
        earlier.clear();
        return doorCount();
    }
}
