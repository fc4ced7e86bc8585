import java.util.Arrays;
import java.util.HashMap;
import java.util.Map;
import java.util.NoSuchElementException;

/** Tests of some sentences of the document, and what they have in common. */
abstract class Chapter {
    static final char[] KINDS = {'<', '=', '#'};
    /** Numbers far from all that a method takes; some become small ones in a byte, a short or a char. */
    private static final int[] FAR = {Integer.MIN_VALUE, Integer.MIN_VALUE + 1, -65536, -256, -100, -20, -5,
        100, 255, 256, 65536, Integer.MAX_VALUE - 1, Integer.MAX_VALUE};
    private static final Map<Scene, Map<String, String>> KNOWN_FACTS = new HashMap<>();
    private static final StackWalker STACK = StackWalker.getInstance();

    private final Sentences sentences;

    Chapter(Sentences sentences) {
        this.sentences = sentences;
    }

    abstract void tell();

    void under(String heading) {
        sentences.under(heading);
    }

    void promise(int number) {
        sentences.under("Promise " + number);
    }

    void holds(String sentence, Runnable test) {
        sentences.holds(sentence, test);
    }

    void same(Object due, Check.Call call) {
        same("", due, call);
    }

    /** The text tells what is looked at, where the place in the test does not tell it. */
    void same(String what, Object due, Check.Call call) {
        sentences.same(place() + " " + what, due, Check.answer(call));
    }

    void throwing(Class<? extends RuntimeException> due, Check.Call call) {
        same(Check.thrownName(due), call);
    }

    private static String place() {
        return STACK.walk(frames -> frames.filter(frame -> frame.getClassName().matches(".+Chapter")).findFirst())
                .map(frame -> frame.getFileName() + ":" + frame.getLineNumber()).orElse("");
    }

    /** Two numbers that are outside by one, and those that are far outside. */
    static int[] outside(int least, int most) {
        int[] numbers = new int[FAR.length + 2];
        int count = 0;
        for (int number : FAR) {
            if (number < least || number > most) {
                numbers[count++] = number;
            }
        }
        numbers[count++] = least - 1;
        numbers[count++] = most + 1;
        return Arrays.copyOf(numbers, count);
    }

    private static Map<String, String> factsOf(Scene scene) {
        return KNOWN_FACTS.computeIfAbsent(scene, Facts::of);
    }

    /** Nothing that can be told is different after the call, but for the facts that are named. */
    void leaves(Scene scene, Scene.Deed call, String... different) {
        Map<String, String> before = new HashMap<>(factsOf(scene));
        Map<String, String> after = Facts.of(scene.then(call));
        for (String fact : different) {
            before.remove(fact);
        }
        before.forEach((fact, text) -> same(fact, text, () -> after.get(fact)));
    }

    /** The call throws the exception, and changes nothing. */
    void refused(Class<? extends RuntimeException> due, Scene scene, Scene.Deed call) {
        throwing(due, () -> call.on(scene.make()));
        leaves(scene, call);
    }

    /** The call is rejected, and changes nothing but the latest rejection. */
    void rejected(int reason, int detail, Scene scene, Scene.Deed call) {
        throwing(UnsupportedOperationException.class, () -> call.on(scene.make()));
        Scene after = scene.then(call);
        same(reason, () -> after.make().rejectionReason());
        same(detail, () -> after.make().rejectionDetail());
        throwing(NoSuchElementException.class, () -> after.make().causeReason());
        leaves(scene, call, Facts.REJECTION, Facts.CAUSE);
    }

    /** The commands are rejected, which changes nothing but the latest rejection and the input. */
    void commandsRejected(int number, int cause, Scene scene) {
        throwing(UnsupportedOperationException.class, () -> scene.make().execute());
        Scene after = scene.then(LintelBrothers::execute);
        same(LintelBrothers.COMMAND_REJECTED, () -> after.make().rejectionReason());
        same(number, () -> after.make().rejectionDetail());
        same(cause, () -> after.make().causeReason());
        inputIsEmpty(after);
        leaves(scene, LintelBrothers::execute, Facts.REJECTION, Facts.CAUSE, Facts.INPUT, Facts.INPUT_LENGTH);
    }

    void inputIsEmpty(Scene scene) {
        same(1, () -> scene.make().appendInput('p'));
        LintelBrothers x = scene.make();
        throwing(IllegalArgumentException.class, x::execute);
        same(0, x::syntaxErrorOffset);
        same(1, () -> Scenes.run(scene.make(), "reset"));
    }

    /** A call with a number. */
    interface Numbered {
        Object with(LintelBrothers x, int number);
    }

    /** The call refuses each of the numbers. */
    void refusesAll(Class<? extends RuntimeException> due, Scene scene, int[] numbers, Numbered call) {
        for (int number : numbers) {
            refused(due, scene, x -> call.with(x, number));
        }
    }

    /** No door, three doors and six doors: the indexes that are none. */
    void refusesOtherDoors(Numbered call) {
        refusesAll(IndexOutOfBoundsException.class, Scenes.NOTHING, outside(0, -1), call);
        refusesAll(IndexOutOfBoundsException.class, Scenes.SOME, outside(0, 2), call);
        refusesAll(IndexOutOfBoundsException.class, Scenes.SOME, new int[] {4, 5, 6}, call);
        refusesAll(IndexOutOfBoundsException.class, Scenes.FULL, outside(0, 5), call);
    }

    /** No constraint, two constraints and ten: ids that are below, removed, not yet given, or far. */
    void refusesOtherIds(Numbered call) {
        refusesAll(NoSuchElementException.class, Scenes.NOTHING, outside(0, -1), call);
        refusesAll(NoSuchElementException.class, Scenes.SOME, outside(0, 2), call);
        refusesAll(NoSuchElementException.class, Scenes.SOME, new int[] {1, 4, 9, 10}, call);
        refusesAll(NoSuchElementException.class, Scenes.FULL, outside(1, 11), call);
        refusesAll(NoSuchElementException.class, Scenes.FULL, new int[] {5, 13}, call);
    }

    /** Positions that no list has: none at all, those of a short one, and those of a full one. */
    void refusesOtherPositions(int some, int full, Numbered call) {
        refusesAll(NoSuchElementException.class, Scenes.NOTHING, outside(0, -1), call);
        refusesAll(NoSuchElementException.class, Scenes.SOME, outside(0, some - 1), call);
        refusesAll(NoSuchElementException.class, Scenes.FULL, outside(0, full - 1), call);
    }
}
