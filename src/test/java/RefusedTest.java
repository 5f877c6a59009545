import java.util.ArrayList;
import java.util.List;
import java.util.function.Consumer;

/**
 * Calls that are refused, each just beyond a boundary and just inside it, in every kind of state:
 * that the exception named first is thrown, and that a twin to which nothing was said can't be told
 * apart from the one that refused.
 */
public final class RefusedTest {

    private static final String PLAY = "A@w{A5>Bx;By:y+1;Cy:y+1;Aw:w-1;}A!3>B;A6>Bx;A7>Bx;A8>Bx;Bz:9;";
    private static final String UNAWARE = "Aw:1;A?w{Cx:1;}{}";
    private static final String TOO_MANY = "A?w{Bw:1;Cw:1;Dw:1;Ew:1;Fw:1;}{}".repeat(6);

    /** What an object went through before a call. */
    private enum Situation {
        NEW, THREW, LOADED, ASKED, TOLD_ONE, WAITING, ENDED, RESET, THREW_LATER;

        boolean hasPlay() {
            return this != NEW && this != THREW;
        }

        boolean isStepped() {
            return hasPlay() && this != LOADED && this != RESET;
        }
    }

    /** A call, and what it throws without a play, with one before a step, and behind a step. */
    private record Call(String name, Class<?> noPlay, Class<?> noStep, Class<?> stepped, Consumer<PlayCutter> call) {

        Class<?> due(Situation s) {
            return !s.hasPlay() ? noPlay : s.isStepped() ? stepped : noStep;
        }
    }

    private static final List<Call> CALLS = new ArrayList<>();

    public static void main(String[] args) {
        addCallsOnParts();
        addCallsBeforeSteps();
        addCallsOfSteps();
        addCallsOnState();
        for (Situation s : Situation.values()) {
            for (Call call : CALLS) {
                aRefusedCallChangesNothing(s, call);
            }
            aLoadThatThrowsChangesNothingElse(s, "", true, Check.ARGUMENT, 0, PlayCutter.NONE);
            aLoadThatThrowsChangesNothingElse(s, "Aw:1", false, Check.ARGUMENT, 4, PlayCutter.NONE);
            aLoadThatThrowsChangesNothingElse(s, "A?w{Cx:1;}{}#", true, Check.ARGUMENT, 12, PlayCutter.NONE);
            aLoadThatThrowsChangesNothingElse(s, UNAWARE, false, Check.STATE, 5, 2);
            aLoadThatThrowsChangesNothingElse(s, TOO_MANY, false, Check.STATE, 0, 1);
            aLoadThatThrowsChangesNothingElse(s, TOO_MANY, true, Check.UNSUPPORTED, 128, PlayCutter.NONE);
            aLoadMakesAllNew(s);
            aTypeThatIsFalseChangesNothing(s);
        }
        Check.end();
    }

    private static PlayCutter make(Situation s) {
        PlayCutter x = new PlayCutter();
        if (s == Situation.THREW) {
            letThrow(x);
        }
        if (!s.hasPlay()) {
            return x;
        }
        Check.type(x, PLAY);
        x.load(false);
        x.room(2);
        x.input(0, 0, 2);
        x.input(1, 2, 7);
        x.whole(4);
        for (int i = 0; i < stepsOfA(s); i++) {
            x.step(0);
        }
        if (s == Situation.ENDED) {
            x.run(0, 300);
        } else if (s == Situation.RESET) {
            x.reset();
        } else if (s == Situation.THREW_LATER) {
            letThrow(x);
        }
        return x;
    }

    private static int stepsOfA(Situation s) {
        switch (s) {
            case ASKED:
                return 1;
            case TOLD_ONE:
            case RESET:
            case THREW_LATER:
                return 2;
            case WAITING:
                return 40;
            default:
                return 0;
        }
    }

    private static void letThrow(PlayCutter x) {
        Check.type(x, UNAWARE);
        Check.dueThrow("load", Check.STATE, () -> x.load(false));
    }

    /** A call that is always refused, for its arguments. */
    private static void add(String name, Class<?> thrown, Consumer<PlayCutter> call) {
        CALLS.add(new Call(name, thrown, thrown, thrown, call));
    }

    /** A call just inside its boundaries, which is refused when there is no play. */
    private static void addNeedsPlay(String name, Consumer<PlayCutter> call) {
        CALLS.add(new Call(name, Check.STATE, Check.NOTHING, Check.NOTHING, call));
    }

    /** A call just inside its boundaries, which is refused when there is no play or a step was made. */
    private static void addNeedsNoStep(String name, Consumer<PlayCutter> call) {
        CALLS.add(new Call(name, Check.STATE, Check.NOTHING, Check.STATE, call));
    }

    /** A call that the play, if there is one, refuses for what is asked of it. */
    private static void addNoElement(String name, Consumer<PlayCutter> call) {
        CALLS.add(new Call(name, Check.STATE, Check.ELEMENT, Check.ELEMENT, call));
    }

    private static void addCallsOnParts() {
        for (int p : new int[] {-1, 6}) {
            add("length(" + p + ")", Check.BOUNDS, x -> x.length(p));
            add("letter(" + p + ", 0)", Check.BOUNDS, x -> x.letter(p, 0));
            add("letter(" + p + ", -1)", Check.BOUNDS, x -> x.letter(p, -1));
            add("at(" + p + ")", Check.BOUNDS, x -> x.at(p));
        }
        for (int p : new int[] {0, 5}) {
            addNeedsPlay("length(" + p + ")", x -> x.length(p));
            addNoElement("letter(" + p + ", -1)", x -> x.letter(p, -1));
            addNoElement("letter(" + p + ", length)", x -> x.letter(p, x.length(p)));
            addNeedsPlay("at(" + p + ")", x -> x.at(p));
        }
        addNeedsPlay("letter(0, 0)", x -> x.letter(0, 0));
        addNeedsPlay("letter(0, length - 1)", x -> x.letter(0, x.length(0) - 1));
        addNoElement("letter(5, 0) of an empty part", x -> x.letter(5, 0));
    }

    private static void addCallsBeforeSteps() {
        for (int bad : new int[] {-1, 6, Integer.MIN_VALUE, Integer.MAX_VALUE}) {
            add("input(" + bad + ", 0, 9)", Check.BOUNDS, x -> x.input(bad, 0, 9));
            int v = bad == 6 ? 4 : bad;
            add("input(0, " + v + ", 9)", Check.BOUNDS, x -> x.input(0, v, 9));
            add("input(5, " + v + ", 9)", Check.BOUNDS, x -> x.input(5, v, 9));
        }
        addNeedsNoStep("input(0, 0, 9)", x -> x.input(0, 0, 9));
        addNeedsNoStep("input(5, 3, 9)", x -> x.input(5, 3, 9));
        for (int k : new int[] {0, 9, -1, Integer.MIN_VALUE, Integer.MAX_VALUE}) {
            add("room(" + k + ")", Check.ARGUMENT, x -> x.room(k));
        }
        addNeedsNoStep("room(1)", x -> x.room(1));
        addNeedsNoStep("room(8)", x -> x.room(8));
    }

    private static void addCallsOfSteps() {
        addNeedsPlay("reset()", PlayCutter::reset);
        for (int p : new int[] {-1, 6, Integer.MIN_VALUE, Integer.MAX_VALUE}) {
            add("step(" + p + ")", Check.BOUNDS, x -> x.step(p));
            add("run(" + p + ", 0)", Check.BOUNDS, x -> x.run(p, 0));
            add("run(" + p + ", 1)", Check.BOUNDS, x -> x.run(p, 1));
            add("run(" + p + ", 301)", Check.BOUNDS, x -> x.run(p, 301));
        }
        for (int n : new int[] {-1, 301, Integer.MIN_VALUE, Integer.MAX_VALUE}) {
            add("run(0, " + n + ")", Check.ARGUMENT, x -> x.run(0, n));
            add("run(5, " + n + ")", Check.ARGUMENT, x -> x.run(5, n));
        }
        for (int p : new int[] {0, 5}) {
            addNeedsPlay("step(" + p + ")", x -> x.step(p));
            addNeedsPlay("run(" + p + ", 0)", x -> x.run(p, 0));
            addNeedsPlay("run(" + p + ", 300)", x -> x.run(p, 300));
        }
        for (int n : new int[] {-1, 2001, Integer.MIN_VALUE, Integer.MAX_VALUE}) {
            add("whole(" + n + ")", Check.ARGUMENT, x -> x.whole(n));
        }
        addNeedsPlay("whole(0)", x -> x.whole(0));
        addNeedsPlay("whole(2000)", x -> x.whole(2000));
    }

    private static void addCallsOnState() {
        int[][] noVariables = {{-1, 0}, {6, 0}, {-1, 3}, {6, 3}, {0, -1}, {0, 4}, {5, -1}, {5, 4}};
        for (int[] pair : noVariables) {
            String both = "(" + pair[0] + ", " + pair[1] + ")";
            add("variable" + both, Check.BOUNDS, x -> x.variable(pair[0], pair[1]));
            add("wanted" + both, Check.BOUNDS, x -> x.wanted(pair[0], pair[1]));
        }
        int[][] noQueues = {{-1, 0}, {6, 0}, {-1, 5}, {6, 5}, {0, -1}, {0, 6}, {5, -1}, {5, 6}, {0, 0}, {5, 5}, {-1, -1}};
        for (int[] pair : noQueues) {
            String both = "(" + pair[0] + ", " + pair[1];
            add("queue" + both + ")", Check.BOUNDS, x -> x.queue(pair[0], pair[1]));
            for (int i : new int[] {-1, 0}) {
                add("message" + both + ", " + i + ")", Check.BOUNDS, x -> x.message(pair[0], pair[1], i));
                add("label" + both + ", " + i + ")", Check.BOUNDS, x -> x.label(pair[0], pair[1], i));
            }
        }
        add("message(0, 1, -1)", Check.ELEMENT, x -> x.message(0, 1, -1));
        add("message(0, 1, queue)", Check.ELEMENT, x -> x.message(0, 1, x.queue(0, 1)));
        add("message(5, 4, 0)", Check.ELEMENT, x -> x.message(5, 4, 0));
        add("label(0, 1, -1)", Check.ELEMENT, x -> x.label(0, 1, -1));
        add("label(0, 1, queue)", Check.ELEMENT, x -> x.label(0, 1, x.queue(0, 1)));
        add("label(5, 4, 0)", Check.ELEMENT, x -> x.label(5, 4, 0));
    }

    /** "Where several exceptions fit, that named first is thrown. A call that throws changes nothing". */
    private static void aRefusedCallChangesNothing(Situation s, Call call) {
        String what = s + ": " + call.name;
        PlayCutter x = halfTyped(s);
        Check.dueThrow(what, call.due(s), () -> call.call.accept(x));
        if (call.due(s) == Check.NOTHING) {
            return;
        }
        Check.due(what + ": all goes on", goOn(halfTyped(s)), goOn(x));
        PlayCutter y = halfTyped(s);
        Check.dueThrow(what, call.due(s), () -> call.call.accept(y));
        Check.due(what + ": the text stays", loadRest(halfTyped(s)), loadRest(y));
    }

    /** With a text that has been begun, but not loaded. */
    private static PlayCutter halfTyped(Situation s) {
        PlayCutter x = make(s);
        Check.type(x, "Bz:4");
        return x;
    }

    /** Promise 2: a type() that answers false is no exception, but it is refused as well. */
    private static void aTypeThatIsFalseChangesNothing(Situation s) {
        for (long w : new long[] {' ', 127, Check.packed(";Bz:5; "), -1, Long.MIN_VALUE | Check.packed(";Bz:5;;")}) {
            PlayCutter x = halfTyped(s);
            Check.due(s + ": type " + w, false, x.type(w));
            Check.due(s + ": type " + w + ": all goes on", goOn(halfTyped(s)), goOn(x));
            PlayCutter y = halfTyped(s);
            Check.due(s + ": type " + w, false, y.type(w));
            Check.due(s + ": type " + w + ": the text stays", loadRest(halfTyped(s)), loadRest(y));
        }
    }

    /** Promise 3: "The text is empty then, also when it throws; ... and all else stays as it was." */
    private static void aLoadThatThrowsChangesNothingElse(Situation s, String text, boolean putIn, Class<?> thrown,
            int fault, int who) {
        String what = s + ": load(" + putIn + ") of " + text;
        PlayCutter x = make(s);
        Check.type(x, text);
        Check.dueThrow(what, thrown, () -> x.load(putIn));
        Check.due(what + ": fault", fault, x.fault());
        Check.due(what + ": who", who, x.who());
        Check.due(what + ": all else stays", withoutFault(goOn(make(s))), withoutFault(goOn(x)));
        PlayCutter y = make(s);
        Check.type(y, text);
        Check.dueThrow(what, thrown, () -> y.load(putIn));
        Check.dueThrow(what + ": the text is empty", Check.ARGUMENT, () -> y.load(putIn));
        Check.due(what + ": fault of the empty text", 0, y.fault());
        Check.due(what + ": who of the empty text", PlayCutter.NONE, y.who());
    }

    private static String withoutFault(String state) {
        return state.replaceAll("fault -?\\d+ who -?\\d+", "");
    }

    /** Promise 3, when it does not throw: but for ROOM, no state before it makes a difference. */
    private static void aLoadMakesAllNew(Situation s) {
        PlayCutter x = make(s);
        Check.type(x, PLAY);
        Check.due(s + ": load", 0, x.load(true));
        PlayCutter y = Check.loaded(PLAY, true);
        if (s.hasPlay()) {
            y.room(2);
        }
        Check.due(s + ": behind load", goOn(y), goOn(x));
    }

    /** What can be seen now, in the steps from here on, behind reset(), and by whole(). */
    private static String goOn(PlayCutter x) {
        StringBuilder all = new StringBuilder(Check.state(x));
        all.append(outcome(() -> all.append(x.input(4, 3, 0))));
        all.append(outcome(() -> all.append(Check.part(x, 1))));
        for (int i = 0; i < 50; i++) {
            int party = i * 5 % 7 % 3;
            all.append(outcome(() -> all.append(x.step(party))));
        }
        all.append(outcome(() -> all.append(" run ").append(x.run(0, 300))));
        for (int v = 0; v < 4; v++) {
            all.append(' ').append(x.variable(0, v)).append(' ').append(x.variable(1, v)).append(x.wanted(0, v));
        }
        all.append(outcome(x::reset));
        for (int i = 0; i < 40; i++) {
            all.append(outcome(() -> all.append(x.step(0))));
        }
        all.append(Check.queue(x, 0, 1)).append(Check.queue(x, 0, 2));
        all.append(outcome(x::reset)).append(Check.state(x));
        return all.append(outcome(() -> all.append(x.whole(2000)).append(x.wanted(1, 2)))).toString();
    }

    private static String outcome(Runnable call) {
        try {
            call.run();
            return "";
        } catch (RuntimeException e) {
            return e.getClass().getSimpleName();
        }
    }

    /** What the text is, by what load() makes of it with one letter more. */
    private static String loadRest(PlayCutter x) {
        StringBuilder all = new StringBuilder();
        all.append(x.type(';'));
        all.append(outcome(() -> all.append(x.load(false))));
        all.append(outcome(() -> all.append(Check.part(x, 1))));
        return all.append(x.fault()).toString();
    }
}
