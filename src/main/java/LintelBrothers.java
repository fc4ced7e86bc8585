import java.util.NoSuchElementException;

/** A solver for the heights of doors. The document ../shared/DOC.md says what each call promises. */
public final class LintelBrothers {
    public static final int DOOR_LIMIT = 1;
    public static final int CONSTRAINT_LIMIT = 2;
    public static final int SAME_CONSTRAINT = 3;
    public static final int EMPTY = 4;
    public static final int CONFLICT = 5;
    public static final int COMMAND_REJECTED = 6;

    private static final int MOST_DOORS = 6;
    private static final int MOST_CONSTRAINTS = 10;
    private static final int MOST_UNDOS = 8;
    private static final int MOST_INPUT = 60;
    /** The shortest command has four characters, and one ";" stands between two of them. */
    private static final int MOST_COMMANDS = (MOST_INPUT + 1) / 5;
    private static final int GREATEST_HEIGHT = 40;
    private static final int GREATEST_GAP = 20;
    private static final char LOWER = '<';
    private static final char EXACT = '=';
    private static final char APART = '#';

    /** No height, no position, no id or no offset: all of these are 0 or more. */
    private static final int NONE = -1;
    /** What a change answers, in place of 0 or more, if it is rejected. */
    private static final int REJECTED = -1;
    /** What a command answers if its method would throw for another reason than a rejection. */
    private static final int FAILED = -2;

    private final Data data = new Data();
    private final History history = new History();
    private final Data snapshot = new Data();
    private boolean hasSnapshot;
    private final Bounds trial = new Bounds();
    private final Narrowing narrowing = new Narrowing();
    private final LongestPaths paths = new LongestPaths();
    private final PeaceSearch peace = new PeaceSearch();
    private final StringBuilder output = new StringBuilder();
    private final Script script = new Script();
    private int syntaxOffset = NONE;
    /** The latest rejection; the reason is 0 as long as there was none. */
    private int reason;
    private int detail;
    private int cause;

    public LintelBrothers() {
    }

    // ---- doors

    public int addDoor(int low, int high) throws IllegalArgumentException, UnsupportedOperationException {
        checkRange(low, high);
        history.prepare(data);
        int answer = enterDoor(low, high);
        if (answer == REJECTED) {
            throw new UnsupportedOperationException("there is no room for a further door");
        }
        history.keep();
        return answer;
    }

    public int setFrame(int door, int low, int high) throws IndexOutOfBoundsException, IllegalArgumentException {
        checkDoor(door);
        checkRange(low, high);
        history.prepare(data);
        int answer = changeFrame(door, low, high);
        history.keep();
        return answer;
    }

    public int narrow(int door, int low, int high)
            throws IndexOutOfBoundsException, IllegalArgumentException, UnsupportedOperationException {
        checkDoor(door);
        checkRange(low, high);
        history.prepare(data);
        int answer = narrowDoor(door, low, high);
        if (answer == REJECTED) {
            throw new UnsupportedOperationException("no height is left");
        }
        history.keep();
        return answer;
    }

    public int reset() {
        history.prepare(data);
        int answer = data.openAll();
        history.keep();
        return answer;
    }

    public int doorCount() {
        return data.doors;
    }

    public int lowOf(int door) throws IndexOutOfBoundsException {
        checkDoor(door);
        return data.bounds.low[door];
    }

    public int highOf(int door) throws IndexOutOfBoundsException {
        checkDoor(door);
        return data.bounds.high[door];
    }

    public int frameLow(int door) throws IndexOutOfBoundsException {
        checkDoor(door);
        return data.frame.low[door];
    }

    public int frameHigh(int door) throws IndexOutOfBoundsException {
        checkDoor(door);
        return data.frame.high[door];
    }

    public int widthOf(int door) throws IndexOutOfBoundsException {
        checkDoor(door);
        return data.bounds.width(door);
    }

    public boolean isFixed(int door) throws IndexOutOfBoundsException {
        checkDoor(door);
        return data.bounds.isOneHeight(door);
    }

    public int constraintsOf(int door) throws IndexOutOfBoundsException {
        checkDoor(door);
        return data.constraints.countWith(door);
    }

    // ---- constraints

    public int addConstraint(char kind, int first, int second, int gap)
            throws IndexOutOfBoundsException, IllegalArgumentException, UnsupportedOperationException {
        checkDoor(first);
        checkDoor(second);
        if (!isConstraint(kind, first, second, gap)) {
            throw new IllegalArgumentException("no such kind, a gap out of range, or the same door twice");
        }
        history.prepare(data);
        int answer = enterConstraint(kind, first, second, gap);
        if (answer == REJECTED) {
            throw new UnsupportedOperationException("there is no room for this constraint, or it is there");
        }
        history.keep();
        return answer;
    }

    public int removeConstraint(int id) throws NoSuchElementException {
        int position = checkedPosition(id);
        history.prepare(data);
        int answer = takeConstraintAway(position);
        history.keep();
        return answer;
    }

    public int constraintCount() {
        return data.constraints.count;
    }

    public int constraintAt(int position) throws NoSuchElementException {
        if (position < 0 || position >= data.constraints.count) {
            throw new NoSuchElementException("no such position");
        }
        return data.constraints.id[position];
    }

    public char kindOf(int id) throws NoSuchElementException {
        return data.constraints.kind[checkedPosition(id)];
    }

    public int firstOf(int id) throws NoSuchElementException {
        return data.constraints.first[checkedPosition(id)];
    }

    public int secondOf(int id) throws NoSuchElementException {
        return data.constraints.second[checkedPosition(id)];
    }

    public int gapOf(int id) throws NoSuchElementException {
        return data.constraints.gap[checkedPosition(id)];
    }

    public boolean isSafe(int id) throws NoSuchElementException {
        return data.isAlwaysMet(checkedPosition(id));
    }

    public boolean isBroken(int id) throws NoSuchElementException {
        return data.isNeverMet(checkedPosition(id));
    }

    // ---- passes

    public int pass() throws UnsupportedOperationException {
        history.prepare(data);
        int answer = passOnce();
        if (answer == REJECTED) {
            throw new UnsupportedOperationException("there is a conflict in the pass");
        }
        history.keep();
        return answer;
    }

    public int settle() throws UnsupportedOperationException {
        history.prepare(data);
        int answer = passUntilSettled();
        if (answer == REJECTED) {
            throw new UnsupportedOperationException("there is a conflict in a pass");
        }
        history.keep();
        return answer;
    }

    public boolean isSettled() {
        return changesOfTrialPass() == 0;
    }

    public int wouldChange() throws NoSuchElementException {
        int changes = changesOfTrialPass();
        if (changes == NONE) {
            throw new NoSuchElementException("a pass would be rejected");
        }
        return changes;
    }

    public int lowestHeight(int door) throws IndexOutOfBoundsException, NoSuchElementException {
        checkDoor(door);
        if (!settleTrialWithoutApart()) {
            throw new NoSuchElementException("settle would be rejected");
        }
        return trial.low[door];
    }

    public int lowestHeightByPaths(int door) throws IndexOutOfBoundsException, NoSuchElementException {
        checkDoor(door);
        if (!paths.climb(data.constraints, data.bounds, data.doors)) {
            throw new NoSuchElementException("a path leads above a high bound");
        }
        return paths.height[door];
    }

    public int passCount() {
        return data.passes;
    }

    public int changeCount() {
        return data.changes;
    }

    // ---- peace

    public boolean hasPeace() {
        return peace.find(data.constraints, data.bounds, data.doors);
    }

    public int peaceHeight(int door) throws IndexOutOfBoundsException, NoSuchElementException {
        checkDoor(door);
        if (!peace.find(data.constraints, data.bounds, data.doors)) {
            throw new NoSuchElementException("there is no peace");
        }
        return peace.best[door];
    }

    public int peaceSum() throws NoSuchElementException {
        if (!peace.find(data.constraints, data.bounds, data.doors)) {
            throw new NoSuchElementException("there is no peace");
        }
        int sum = 0;
        for (int door = 0; door < data.doors; door++) {
            sum += peace.best[door];
        }
        return sum;
    }

    public boolean arePossible(int first, int height, int second, int otherHeight)
            throws IndexOutOfBoundsException, IllegalArgumentException {
        checkDoor(first);
        checkDoor(second);
        if (!isHeight(height) || !isHeight(otherHeight)) {
            throw new IllegalArgumentException("a height is out of range");
        }
        trial.copyFrom(data.bounds);
        return trial.fix(first, height) && trial.fix(second, otherHeight)
                && peace.find(data.constraints, trial, data.doors);
    }

    // ---- orders and shares

    public int doorByWidth(int position) throws NoSuchElementException {
        int door = data.doorAtRank(position);
        if (door == NONE) {
            throw new NoSuchElementException("no such position");
        }
        return door;
    }

    public int constraintByGap(int position) throws NoSuchElementException {
        int place = data.constraints.positionAtRank(position);
        if (place == NONE) {
            throw new NoSuchElementException("no such position");
        }
        return data.constraints.id[place];
    }

    public int fixedCount() {
        int fixed = 0;
        for (int door = 0; door < data.doors; door++) {
            if (data.bounds.isOneHeight(door)) {
                fixed++;
            }
        }
        return fixed;
    }

    public int totalWidth() {
        return data.bounds.sumOfWidths(data.doors);
    }

    public int totalFrameWidth() {
        return data.frame.sumOfWidths(data.doors);
    }

    public double meanWidth() throws ArithmeticException {
        if (data.doors == 0) {
            throw new ArithmeticException("there are no doors");
        }
        return (double) totalWidth() / (double) data.doors;
    }

    public float fixedShare() throws ArithmeticException {
        if (data.doors == 0) {
            throw new ArithmeticException("there are no doors");
        }
        return (float) fixedCount() / (float) data.doors;
    }

    public boolean isConsistent() {
        boolean settles = settleTrialWithoutApart();
        boolean climbs = paths.climb(data.constraints, data.bounds, data.doors);
        if (settles != climbs) {
            return false;
        }
        for (int door = 0; door < data.doors; door++) {
            if (!data.isInOrder(door) || settles && trial.low[door] != paths.height[door]) {
                return false;
            }
        }
        return true;
    }

    // ---- text output

    public int writeDoor(int door) throws IndexOutOfBoundsException {
        checkDoor(door);
        output.setLength(0);
        output.append(door).append('[').append(data.bounds.low[door]);
        if (!data.bounds.isOneHeight(door)) {
            output.append("..").append(data.bounds.high[door]);
        }
        output.append(']');
        if (data.differencesToFrame(door) > 0) {
            output.append('*');
        }
        return output.length();
    }

    public int writeConstraint(int id) throws NoSuchElementException {
        int position = checkedPosition(id);
        Constraints list = data.constraints;
        output.setLength(0);
        output.append(id).append(':').append(list.first[position]);
        output.append(list.kind[position]).append(list.second[position]);
        if (list.gap[position] != 0) {
            output.append('+').append(list.gap[position]);
        }
        return output.length();
    }

    public char outputAt(int index) throws IndexOutOfBoundsException {
        if (index < 0 || index >= output.length()) {
            throw new IndexOutOfBoundsException("no character at this index");
        }
        return output.charAt(index);
    }

    // ---- commands

    public int appendInput(char character) throws IllegalArgumentException, IllegalStateException {
        if (character < 32 || character > 126) {
            throw new IllegalArgumentException("the code of the character is out of range");
        }
        if (script.text.length() >= MOST_INPUT) {
            throw new IllegalStateException("the input is full");
        }
        script.text.append(character);
        return script.text.length();
    }

    public int execute() throws IllegalArgumentException, IllegalStateException, UnsupportedOperationException {
        boolean isRead = script.read();
        script.text.setLength(0);
        if (!isRead) {
            syntaxOffset = script.position;
            throw new IllegalArgumentException("the input has a syntax error");
        }
        history.prepare(data);
        int outcome = 0;
        int last = NONE;
        for (int number = 0; outcome >= 0 && number < script.count; number++) {
            outcome = runCommand(number);
            last = number;
        }
        if (outcome < 0) {
            history.bringBackPrepared(data);
        }
        if (outcome == FAILED) {
            throw new IllegalStateException("a command fails");
        }
        if (outcome == REJECTED) {
            cause = reason;
            reject(COMMAND_REJECTED, last);
            throw new UnsupportedOperationException("a command is rejected");
        }
        history.keep();
        return script.count;
    }

    public int syntaxErrorOffset() throws NoSuchElementException {
        if (syntaxOffset == NONE) {
            throw new NoSuchElementException("there was no syntax error");
        }
        return syntaxOffset;
    }

    // ---- rejections and history

    public int rejectionReason() throws NoSuchElementException {
        if (reason == 0) {
            throw new NoSuchElementException("no call was rejected");
        }
        return reason;
    }

    public int rejectionDetail() throws NoSuchElementException {
        if (reason == 0) {
            throw new NoSuchElementException("no call was rejected");
        }
        return detail;
    }

    public int causeReason() throws NoSuchElementException {
        if (reason != COMMAND_REJECTED) {
            throw new NoSuchElementException("the latest rejection is not one of a command");
        }
        return cause;
    }

    public int undo() throws IllegalStateException {
        if (history.count == 0) {
            throw new IllegalStateException("there is no change to undo");
        }
        history.bringBackLatest(data);
        return history.count;
    }

    public int saveSnapshot() {
        snapshot.copyFrom(data);
        hasSnapshot = true;
        return data.doors;
    }

    public int restoreSnapshot() throws IllegalStateException {
        if (!hasSnapshot) {
            throw new IllegalStateException("there is no snapshot");
        }
        data.copyFrom(snapshot);
        history.count = 0;
        return data.doors;
    }

    // ---- checks of arguments

    private static boolean isHeight(int height) {
        return height >= 0 && height <= GREATEST_HEIGHT;
    }

    private static boolean isRange(int low, int high) {
        return isHeight(low) && isHeight(high) && low <= high;
    }

    private static boolean isConstraint(char kind, int first, int second, int gap) {
        boolean isKind = kind == LOWER || kind == EXACT || kind == APART;
        int leastGap = kind == APART ? 1 : 0;
        return isKind && gap >= leastGap && gap <= GREATEST_GAP && first != second;
    }

    private static void checkRange(int low, int high) {
        if (!isRange(low, high)) {
            throw new IllegalArgumentException("a height is out of range");
        }
    }

    private void checkDoor(int door) {
        if (!data.hasDoor(door)) {
            throw new IndexOutOfBoundsException("no such door");
        }
    }

    private int checkedPosition(int id) {
        int position = data.constraints.positionOf(id);
        if (position == NONE) {
            throw new NoSuchElementException("no constraint with this id");
        }
        return position;
    }

    // ---- the changes themselves: their arguments are checked, and a rejected one leaves the data as they are

    private int reject(int newReason, int newDetail) {
        reason = newReason;
        detail = newDetail;
        return REJECTED;
    }

    private int enterDoor(int low, int high) {
        if (data.doors >= MOST_DOORS) {
            return reject(DOOR_LIMIT, MOST_DOORS);
        }
        int door = data.doors;
        data.frame.put(door, low, high);
        data.bounds.put(door, low, high);
        data.doors++;
        return door;
    }

    private int changeFrame(int door, int low, int high) {
        data.frame.put(door, low, high);
        return data.openAll();
    }

    private int narrowDoor(int door, int low, int high) {
        int oldLow = data.bounds.low[door];
        int oldHigh = data.bounds.high[door];
        int newLow = Math.max(oldLow, low);
        int newHigh = Math.min(oldHigh, high);
        if (newLow > newHigh) {
            return reject(EMPTY, oldLow);
        }
        data.bounds.put(door, newLow, newHigh);
        return (newLow != oldLow ? 1 : 0) + (newHigh != oldHigh ? 1 : 0);
    }

    private int enterConstraint(char kind, int first, int second, int gap) {
        Constraints list = data.constraints;
        if (list.count >= MOST_CONSTRAINTS) {
            return reject(CONSTRAINT_LIMIT, list.id[0]);
        }
        int same = list.positionOfSame(kind, first, second, gap);
        if (same != NONE) {
            return reject(SAME_CONSTRAINT, list.id[same]);
        }
        return list.append(kind, first, second, gap);
    }

    private int takeConstraintAway(int position) {
        data.constraints.takeOut(position);
        data.openAll();
        return data.constraints.count;
    }

    private int passOnce() {
        trial.copyFrom(data.bounds);
        narrowing.begin();
        if (!narrowing.makePass(data.constraints, trial, true)) {
            return reject(CONFLICT, narrowing.conflict);
        }
        takeOverTrial();
        return narrowing.changes;
    }

    private int passUntilSettled() {
        trial.copyFrom(data.bounds);
        narrowing.begin();
        if (!narrowing.makePassesToTheEnd(data.constraints, trial, true)) {
            return reject(CONFLICT, narrowing.conflict);
        }
        takeOverTrial();
        return narrowing.passes;
    }

    private void takeOverTrial() {
        data.bounds.copyFrom(trial);
        data.passes += narrowing.passes;
        data.changes += narrowing.changes;
    }

    /** Returns NONE if there is a conflict in the pass. */
    private int changesOfTrialPass() {
        trial.copyFrom(data.bounds);
        narrowing.begin();
        return narrowing.makePass(data.constraints, trial, true) ? narrowing.changes : NONE;
    }

    private boolean settleTrialWithoutApart() {
        trial.copyFrom(data.bounds);
        narrowing.begin();
        return narrowing.makePassesToTheEnd(data.constraints, trial, false);
    }

    // ---- the commands of the input

    /** Returns FAILED or REJECTED, or 0 or more if the command succeeds. */
    private int runCommand(int command) {
        char kind = script.kind[command];
        int one = script.number[command][0];
        int two = script.number[command][1];
        int three = script.number[command][2];
        switch (script.verb[command]) {
            case Script.DOOR:
                return isRange(one, two) ? enterDoor(one, two) : FAILED;
            case Script.FRAME:
                return data.hasDoor(one) && isRange(two, three) ? changeFrame(one, two, three) : FAILED;
            case Script.NARROW:
                return data.hasDoor(one) && isRange(two, three) ? narrowDoor(one, two, three) : FAILED;
            case Script.CONSTRAINT:
                boolean isFit = data.hasDoor(one) && data.hasDoor(two) && isConstraint(kind, one, two, three);
                return isFit ? enterConstraint(kind, one, two, three) : FAILED;
            case Script.DROP:
                int position = data.constraints.positionOf(one);
                return position != NONE ? takeConstraintAway(position) : FAILED;
            case Script.PASS:
                return passOnce();
            case Script.SETTLE:
                return passUntilSettled();
            default:
                return data.openAll();
        }
    }

    // ---- the parts

    /** A lowest and a greatest height for each door. */
    private static final class Bounds {
        final int[] low = new int[MOST_DOORS];
        final int[] high = new int[MOST_DOORS];

        void copyFrom(Bounds other) {
            System.arraycopy(other.low, 0, low, 0, MOST_DOORS);
            System.arraycopy(other.high, 0, high, 0, MOST_DOORS);
        }

        void put(int door, int newLow, int newHigh) {
            low[door] = newLow;
            high[door] = newHigh;
        }

        /** Leaves one height to a door; returns false if it was not within the bounds. */
        boolean fix(int door, int height) {
            if (height < low[door] || height > high[door]) {
                return false;
            }
            put(door, height, height);
            return true;
        }

        int width(int door) {
            return high[door] - low[door] + 1;
        }

        boolean isOneHeight(int door) {
            return low[door] == high[door];
        }

        boolean isEmpty(int door) {
            return low[door] > high[door];
        }

        int sumOfWidths(int doors) {
            int sum = 0;
            for (int door = 0; door < doors; door++) {
                sum += width(door);
            }
            return sum;
        }
    }

    /** The constraints in the order of ids, in rows of equal positions. */
    private static final class Constraints {
        int count;
        int nextId;
        final int[] id = new int[MOST_CONSTRAINTS];
        final char[] kind = new char[MOST_CONSTRAINTS];
        final int[] first = new int[MOST_CONSTRAINTS];
        final int[] second = new int[MOST_CONSTRAINTS];
        final int[] gap = new int[MOST_CONSTRAINTS];

        void copyFrom(Constraints other) {
            count = other.count;
            nextId = other.nextId;
            System.arraycopy(other.id, 0, id, 0, MOST_CONSTRAINTS);
            System.arraycopy(other.kind, 0, kind, 0, MOST_CONSTRAINTS);
            System.arraycopy(other.first, 0, first, 0, MOST_CONSTRAINTS);
            System.arraycopy(other.second, 0, second, 0, MOST_CONSTRAINTS);
            System.arraycopy(other.gap, 0, gap, 0, MOST_CONSTRAINTS);
        }

        int positionOf(int wantedId) {
            for (int position = 0; position < count; position++) {
                if (id[position] == wantedId) {
                    return position;
                }
            }
            return NONE;
        }

        int positionOfSame(char wantedKind, int wantedFirst, int wantedSecond, int wantedGap) {
            for (int position = 0; position < count; position++) {
                if (kind[position] == wantedKind && first[position] == wantedFirst
                        && second[position] == wantedSecond && gap[position] == wantedGap) {
                    return position;
                }
            }
            return NONE;
        }

        /** Returns the id of the new constraint; there must be room for it. */
        int append(char newKind, int newFirst, int newSecond, int newGap) {
            int newId = nextId;
            id[count] = newId;
            kind[count] = newKind;
            first[count] = newFirst;
            second[count] = newSecond;
            gap[count] = newGap;
            count++;
            nextId++;
            return newId;
        }

        void takeOut(int position) {
            count--;
            for (int to = position; to < count; to++) {
                id[to] = id[to + 1];
                kind[to] = kind[to + 1];
                first[to] = first[to + 1];
                second[to] = second[to + 1];
                gap[to] = gap[to + 1];
            }
        }

        int countWith(int door) {
            int found = 0;
            for (int position = 0; position < count; position++) {
                if (first[position] == door || second[position] == door) {
                    found++;
                }
            }
            return found;
        }

        /** Returns the position of the constraint that has this place in the order of gaps, or NONE. */
        int positionAtRank(int rank) {
            for (int position = 0; position < count; position++) {
                if (rankOf(position) == rank) {
                    return position;
                }
            }
            return NONE;
        }

        private int rankOf(int position) {
            int ahead = 0;
            for (int other = 0; other < count; other++) {
                if (gap[other] > gap[position] || gap[other] == gap[position] && other < position) {
                    ahead++;
                }
            }
            return ahead;
        }
    }

    /** All that undo and the snapshot cover. */
    private static final class Data {
        int doors;
        final Bounds frame = new Bounds();
        final Bounds bounds = new Bounds();
        final Constraints constraints = new Constraints();
        int passes;
        int changes;

        void copyFrom(Data other) {
            doors = other.doors;
            frame.copyFrom(other.frame);
            bounds.copyFrom(other.bounds);
            constraints.copyFrom(other.constraints);
            passes = other.passes;
            changes = other.changes;
        }

        boolean hasDoor(int door) {
            return door >= 0 && door < doors;
        }

        int differencesToFrame(int door) {
            return (bounds.low[door] != frame.low[door] ? 1 : 0) + (bounds.high[door] != frame.high[door] ? 1 : 0);
        }

        /** Makes all bounds those of the frames; returns how many become different. */
        int openAll() {
            int different = 0;
            for (int door = 0; door < doors; door++) {
                different += differencesToFrame(door);
            }
            bounds.copyFrom(frame);
            return different;
        }

        boolean isInOrder(int door) {
            return !bounds.isEmpty(door)
                    && bounds.low[door] >= frame.low[door] && bounds.high[door] <= frame.high[door];
        }

        boolean isAlwaysMet(int position) {
            int first = constraints.first[position];
            int second = constraints.second[position];
            int gap = constraints.gap[position];
            boolean isBelow = bounds.high[first] + gap <= bounds.low[second];
            boolean isAbove = bounds.high[second] + gap <= bounds.low[first];
            switch (constraints.kind[position]) {
                case LOWER:
                    return isBelow;
                case EXACT:
                    return isBelow && bounds.low[first] + gap >= bounds.high[second];
                default:
                    return isBelow || isAbove;
            }
        }

        boolean isNeverMet(int position) {
            int first = constraints.first[position];
            int second = constraints.second[position];
            int gap = constraints.gap[position];
            boolean isNeverBelow = bounds.low[first] + gap > bounds.high[second];
            boolean isNeverAbove = bounds.low[second] + gap > bounds.high[first];
            switch (constraints.kind[position]) {
                case LOWER:
                    return isNeverBelow;
                case EXACT:
                    return isNeverBelow || bounds.high[first] + gap < bounds.low[second];
                default:
                    return isNeverBelow && isNeverAbove;
            }
        }

        /** Returns the door that has this place in the order of widths, or NONE. */
        int doorAtRank(int rank) {
            for (int door = 0; door < doors; door++) {
                if (rankOf(door) == rank) {
                    return door;
                }
            }
            return NONE;
        }

        private int rankOf(int door) {
            int ahead = 0;
            for (int other = 0; other < doors; other++) {
                if (isAhead(other, door)) {
                    ahead++;
                }
            }
            return ahead;
        }

        private boolean isAhead(int one, int other) {
            int widths = bounds.width(one) - bounds.width(other);
            if (widths != 0) {
                return widths < 0;
            }
            int takingPart = constraints.countWith(one) - constraints.countWith(other);
            return takingPart > 0 || takingPart == 0 && one < other;
        }
    }

    /** Passes over constraints, which narrow bounds. */
    private static final class Narrowing {
        /** Far more than it takes to narrow 6 doors of 41 heights by one bound in each pass. */
        private static final int MOST_PASSES = 1000;

        int passes;
        int changes;
        /** The id of the constraint that has a conflict. */
        int conflict;

        void begin() {
            passes = 0;
            changes = 0;
            conflict = NONE;
        }

        /** Returns false if there is a conflict; the bounds are of no use then. */
        boolean makePassesToTheEnd(Constraints list, Bounds bounds, boolean withApart) {
            for (int round = 0; round < MOST_PASSES; round++) {
                int changesBefore = changes;
                if (!makePass(list, bounds, withApart)) {
                    return false;
                }
                if (changes == changesBefore) {
                    return true;
                }
            }
            return true;
        }

        /** Returns false if there is a conflict; the bounds are of no use then. */
        boolean makePass(Constraints list, Bounds bounds, boolean withApart) {
            for (int position = 0; position < list.count; position++) {
                if (list.kind[position] == APART && !withApart) {
                    continue;
                }
                takeSteps(list, position, bounds);
                if (bounds.isEmpty(list.first[position]) || bounds.isEmpty(list.second[position])) {
                    conflict = list.id[position];
                    return false;
                }
            }
            passes++;
            return true;
        }

        private void takeSteps(Constraints list, int position, Bounds bounds) {
            int first = list.first[position];
            int second = list.second[position];
            int gap = list.gap[position];
            if (list.kind[position] == APART) {
                keepOff(bounds, first, second, gap);
                keepOff(bounds, second, first, gap);
                return;
            }
            raiseLow(bounds, second, bounds.low[first] + gap);
            sinkHigh(bounds, first, bounds.high[second] - gap);
            if (list.kind[position] == EXACT) {
                raiseLow(bounds, first, bounds.low[second] - gap);
                sinkHigh(bounds, second, bounds.high[first] + gap);
            }
        }

        private void raiseLow(Bounds bounds, int door, int height) {
            if (bounds.low[door] < height) {
                bounds.low[door] = height;
                changes++;
            }
        }

        private void sinkHigh(Bounds bounds, int door, int height) {
            if (bounds.high[door] > height) {
                bounds.high[door] = height;
                changes++;
            }
        }

        /** Moves the bounds of a door out of the heights that are too near to a fixed one. */
        private void keepOff(Bounds bounds, int fixed, int door, int gap) {
            if (bounds.low[fixed] != bounds.high[fixed]) {
                return;
            }
            int under = bounds.low[fixed] - gap;
            int over = bounds.low[fixed] + gap;
            if (bounds.low[door] > under && bounds.low[door] < over) {
                bounds.low[door] = over;
                changes++;
            }
            if (bounds.high[door] > under && bounds.high[door] < over) {
                bounds.high[door] = under;
                changes++;
            }
        }
    }

    /**
     * The longest paths from the low bounds of all doors along constraints. A constraint of the kind apart is no
     * way as long as its side is open; with one door chosen to be the lower one it is like the kind lower.
     */
    private static final class LongestPaths {
        static final int OPEN = 0;
        static final int FIRST_BELOW = 1;
        static final int SECOND_BELOW = 2;

        final int[] height = new int[MOST_DOORS];
        final int[] side = new int[MOST_CONSTRAINTS];

        /** Finds the heights; returns false if a path gives one that is greater than the high bound of its door. */
        boolean climb(Constraints list, Bounds bounds, int doors) {
            System.arraycopy(bounds.low, 0, height, 0, MOST_DOORS);
            // A longest path has each door at most once, unless a circle raises heights without an end.
            boolean isRaised = true;
            for (int round = 0; isRaised && round <= doors; round++) {
                isRaised = climbOnce(list);
            }
            if (isRaised) {
                return false;
            }
            for (int door = 0; door < doors; door++) {
                if (height[door] > bounds.high[door]) {
                    return false;
                }
            }
            return true;
        }

        private boolean climbOnce(Constraints list) {
            boolean isRaised = false;
            for (int position = 0; position < list.count; position++) {
                if (climbAlong(list, position)) {
                    isRaised = true;
                }
            }
            return isRaised;
        }

        private boolean climbAlong(Constraints list, int position) {
            int first = list.first[position];
            int second = list.second[position];
            int gap = list.gap[position];
            switch (list.kind[position]) {
                case LOWER:
                    return raise(second, height[first] + gap);
                case EXACT:
                    boolean isRaised = raise(second, height[first] + gap);
                    return raise(first, height[second] - gap) || isRaised;
                default:
                    return side[position] == FIRST_BELOW && raise(second, height[first] + gap)
                            || side[position] == SECOND_BELOW && raise(first, height[second] + gap);
            }
        }

        private boolean raise(int door, int newHeight) {
            if (height[door] >= newHeight) {
                return false;
            }
            height[door] = newHeight;
            return true;
        }
    }

    /**
     * The search for the first peace. With a side chosen for each constraint of the kind apart, the lowest heights
     * that the other constraints leave are the first peace of this choice, for no door can be lower. So sides are
     * chosen only where the lowest heights are too near, and the first of what all choices give is the answer.
     */
    private static final class PeaceSearch {
        final int[] best = new int[MOST_DOORS];
        private boolean isFound;
        private final LongestPaths paths = new LongestPaths();

        boolean find(Constraints list, Bounds bounds, int doors) {
            isFound = false;
            chooseSides(this, list, bounds, doors, 0);
            return isFound;
        }

        private static void chooseSides(PeaceSearch search, Constraints list, Bounds bounds, int doors, int depth) {
            LongestPaths paths = search.paths;
            if (depth > MOST_CONSTRAINTS || !paths.climb(list, bounds, doors) || !search.isBetter(doors)) {
                return;
            }
            int near = search.tooNear(list);
            if (near == NONE) {
                System.arraycopy(paths.height, 0, search.best, 0, MOST_DOORS);
                search.isFound = true;
                return;
            }
            paths.side[near] = LongestPaths.FIRST_BELOW;
            chooseSides(search, list, bounds, doors, depth + 1);
            paths.side[near] = LongestPaths.SECOND_BELOW;
            chooseSides(search, list, bounds, doors, depth + 1);
            paths.side[near] = LongestPaths.OPEN;
        }

        /** Tells whether a peace at or above the heights that were found now can come ahead of the best so far. */
        private boolean isBetter(int doors) {
            if (!isFound) {
                return true;
            }
            for (int door = 0; door < doors; door++) {
                if (paths.height[door] != best[door]) {
                    return paths.height[door] < best[door];
                }
            }
            return false;
        }

        /** Returns the position of a constraint of the kind apart that is not satisfied, or NONE. */
        private int tooNear(Constraints list) {
            for (int position = 0; position < list.count; position++) {
                int distance = Math.abs(paths.height[list.first[position]] - paths.height[list.second[position]]);
                if (list.kind[position] == APART && distance < list.gap[position]) {
                    return position;
                }
            }
            return NONE;
        }
    }

    /** The input, and the commands that it is read into. */
    private static final class Script {
        static final int DOOR = 1;
        static final int FRAME = 2;
        static final int NARROW = 3;
        static final int CONSTRAINT = 4;
        static final int DROP = 5;
        static final int PASS = 6;
        static final int SETTLE = 7;
        static final int RESET = 8;
        private static final int MOST_NUMBERS = 3;

        final StringBuilder text = new StringBuilder();
        /** The index of the next character to be read; the offset of the error if the input can't be read. */
        int position;
        int count;
        final int[] verb = new int[MOST_COMMANDS];
        final char[] kind = new char[MOST_COMMANDS];
        final int[][] number = new int[MOST_COMMANDS][MOST_NUMBERS];

        /** Returns false if there is a syntax error. */
        boolean read() {
            position = 0;
            for (int command = 0; command < MOST_COMMANDS; command++) {
                if (!readCommand(command)) {
                    return false;
                }
                if (position >= text.length()) {
                    count = command + 1;
                    return true;
                }
                if (!readSign(';')) {
                    return false;
                }
            }
            return false;
        }

        private boolean readCommand(int command) {
            switch (signAt(position)) {
                case 'd':
                    boolean isDrop = signAt(position + 1) == 'r';
                    return isDrop ? readForm(command, DROP, "drop N") : readForm(command, DOOR, "door N-N");
                case 'f':
                    return readForm(command, FRAME, "frame D N-N");
                case 'n':
                    return readForm(command, NARROW, "narrow D N-N");
                case 'p':
                    return readForm(command, PASS, "pass");
                case 's':
                    return readForm(command, SETTLE, "settle");
                case 'r':
                    return readForm(command, RESET, "reset");
                default:
                    return readForm(command, CONSTRAINT, "DKD+N");
            }
        }

        /** Reads a command by its form, in which D is for a digit, N for a number and K for a kind. */
        private boolean readForm(int command, int newVerb, String form) {
            verb[command] = newVerb;
            int numbers = 0;
            for (int index = 0; index < form.length(); index++) {
                char part = form.charAt(index);
                boolean isRead;
                if ((part == 'D' || part == 'N') && numbers < MOST_NUMBERS) {
                    int value = part == 'D' ? readDigit() : readNumber();
                    number[command][numbers] = value;
                    numbers++;
                    isRead = value != NONE;
                } else {
                    isRead = part == 'K' ? readKind(command) : readSign(part);
                }
                if (!isRead) {
                    return false;
                }
            }
            return true;
        }

        private boolean readKind(int command) {
            char sign = signAt(position);
            kind[command] = sign;
            return (sign == LOWER || sign == EXACT || sign == APART) && readSign(sign);
        }

        private boolean readSign(char sign) {
            if (signAt(position) != sign) {
                return false;
            }
            position++;
            return true;
        }

        /** Returns NONE if there is no number. */
        private int readNumber() {
            int tens = readDigit();
            int ones = tens != NONE ? readDigit() : NONE;
            return ones != NONE ? 10 * tens + ones : tens;
        }

        /** Returns NONE if there is no digit. */
        private int readDigit() {
            char sign = signAt(position);
            if (sign < '0' || sign > '9') {
                return NONE;
            }
            position++;
            return sign - '0';
        }

        /** Returns a sign that no input has if the input is at its end. */
        private char signAt(int index) {
            return index < text.length() ? text.charAt(index) : 0;
        }
    }

    /** The data ahead of each of the latest changes, in a ring with one place more for the change to come. */
    private static final class History {
        private static final int PLACES = MOST_UNDOS + 1;

        int count;
        private int next;
        private final Data[] ring = new Data[PLACES];

        History() {
            for (int place = 0; place < PLACES; place++) {
                ring[place] = new Data();
            }
        }

        /** Notes the data ahead of a change, which is not known yet to succeed. */
        void prepare(Data data) {
            ring[next].copyFrom(data);
        }

        void bringBackPrepared(Data data) {
            data.copyFrom(ring[next]);
        }

        /** Keeps what has been prepared, for the change has succeeded. */
        void keep() {
            next = next + 1 < PLACES ? next + 1 : 0;
            count = Math.min(count + 1, MOST_UNDOS);
        }

        void bringBackLatest(Data data) {
            next = next > 0 ? next - 1 : PLACES - 1;
            count--;
            data.copyFrom(ring[next]);
        }
    }
}
