/** What the tests share: asking for answers that are due, and counting those that are not given. */
final class Check {

    static final Class<?> NOTHING = null;
    static final Class<?> BOUNDS = IndexOutOfBoundsException.class;
    static final Class<?> ARGUMENT = IllegalArgumentException.class;
    static final Class<?> STATE = IllegalStateException.class;
    static final Class<?> UNSUPPORTED = UnsupportedOperationException.class;
    static final Class<?> ELEMENT = java.util.NoSuchElementException.class;

    private static int asked = 0;
    private static int wrong = 0;

    private Check() {
    }

    static void due(String what, long want, long got) {
        asked++;
        if (got != want) {
            wrong++;
            System.out.println(what + " answered " + got + ", due is " + want);
        }
    }

    static void due(String what, boolean want, boolean got) {
        due(what, want ? 1 : 0, got ? 1 : 0);
    }

    static void due(String what, String want, String got) {
        asked++;
        if (!want.equals(got)) {
            wrong++;
            System.out.println(what + " answered \"" + got + "\", due is \"" + want + "\"");
        }
    }

    /** Asks that a call throws just this exception, not one that is derived from it. */
    static void dueThrow(String what, Class<?> want, Runnable call) {
        asked++;
        Class<?> got = NOTHING;
        try {
            call.run();
        } catch (RuntimeException e) {
            got = e.getClass();
        }
        if (got != want) {
            wrong++;
            System.out.println(what + " threw " + got + ", due is " + want);
        }
    }

    /** Ends the test, with the exit code that tells whether all was as due. */
    static void end() {
        System.out.println(asked + " answers asked for, " + wrong + " not as due");
        System.exit(wrong == 0 && asked > 0 ? 0 : 1);
    }

    static int wrongSoFar() {
        return wrong;
    }

    static long packed(String letters) {
        long w = 0;
        for (int i = 0; i < letters.length(); i++) {
            w |= (long) letters.charAt(i) << 8 * i;
        }
        return w;
    }

    static void type(PlayCutter x, String text) {
        for (int i = 0; i < text.length(); i += 8) {
            String letters = text.substring(i, Math.min(i + 8, text.length()));
            due("type " + letters, true, x.type(packed(letters)));
        }
    }

    static PlayCutter loaded(String text, boolean putIn) {
        PlayCutter x = new PlayCutter();
        type(x, text);
        dueThrow("load(" + putIn + ") of " + text, NOTHING, () -> x.load(putIn));
        return x;
    }

    /** Asks that a text is no play, with this fault; or, when the fault is NONE, that it is one. */
    static void dueFault(int fault, String text) {
        PlayCutter x = new PlayCutter();
        type(x, text);
        dueThrow("load of " + text, fault == PlayCutter.NONE ? NOTHING : ARGUMENT, () -> x.load(true));
        due("fault of " + text, fault, x.fault());
        due("who of " + text, PlayCutter.NONE, x.who());
    }

    /** Asks that load() of a text throws an exception, with this fault and this party. */
    static void dueNoCut(String text, boolean putIn, Class<?> thrown, int fault, int who) {
        PlayCutter x = new PlayCutter();
        type(x, text);
        dueThrow("load(" + putIn + ") of " + text, thrown, () -> x.load(putIn));
        due("fault of " + text, fault, x.fault());
        due("who of " + text, who, x.who());
    }

    /** Asks for the answers of steps: W for WAITS, D for DID, E for ENDED. */
    static void dueSteps(PlayCutter x, String parties, String answers) {
        StringBuilder got = new StringBuilder();
        for (int i = 0; i < parties.length(); i++) {
            got.append("WDE".charAt(x.step(parties.charAt(i) - 'A')));
        }
        due("steps of " + parties, answers, got.toString());
    }

    /** Asks for the whole text of a part: length() once, as an object has but 512 calls. */
    static String part(PlayCutter x, int party) {
        StringBuilder all = new StringBuilder();
        int length = x.length(party);
        for (int i = 0; i < length; i++) {
            all.append((char) x.letter(party, i));
        }
        return all.toString();
    }

    /** All that can be seen of an object's state but the letters of the parts (some 90 calls). */
    static String state(PlayCutter x) {
        StringBuilder all = new StringBuilder();
        all.append("fault ").append(x.fault()).append(" who ").append(x.who());
        for (int p = 0; p < 6; p++) {
            all.append(" party ").append(p).append(": ").append(lengthAndAction(x, p));
            for (int v = 0; v < 4; v++) {
                all.append(' ').append(x.variable(p, v)).append('/').append(x.wanted(p, v));
            }
            for (int q = 0; q < 6; q++) {
                all.append(q == p ? "" : queue(x, p, q));
            }
        }
        return all.toString();
    }

    private static String lengthAndAction(PlayCutter x, int party) {
        try {
            return x.length(party) + " at " + x.at(party);
        } catch (IllegalStateException e) {
            return "no play";
        }
    }

    static String queue(PlayCutter x, int from, int to) {
        StringBuilder all = new StringBuilder("[");
        for (int i = 0; i < x.queue(from, to); i++) {
            all.append(x.label(from, to, i) ? "!" : " ").append(x.message(from, to, i));
        }
        return all.append(']').toString();
    }
}
