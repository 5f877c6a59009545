/** Promises 8 to 13: input, room, reset, step, run and at. */
public final class RunningTest {

    private static final int[] NO_PARTIES = {-1, 6, Integer.MIN_VALUE, Integer.MAX_VALUE};

    public static void main(String[] args) {
        promise8Input();
        promise9Room();
        promise10Reset();
        promise11StepSetsAndSends();
        promise11StepTellsAndChooses();
        promise11StepGoesRound();
        promise11StepWithEmptyParts();
        promise11RoundWaitsWithoutAsking();
        promise12Run();
        promise13At();
        wrongCallsChangeNothing();
        Check.end();
    }

    private static void promise8Input() {
        PlayCutter x = Check.loaded("Aw:w+1;", false);
        Check.due("input", 0, x.input(0, 0, 5));
        Check.due("input again", 5, x.input(0, 0, Integer.MIN_VALUE));
        Check.due("the variable too", Integer.MIN_VALUE, x.variable(0, 0));
        Check.due("input of another", 0, x.input(5, 3, 7));
        Check.due("step of one that has ended", PlayCutter.ENDED, x.step(1));
        Check.due("that was no step", 7, x.input(5, 3, 8));
        Check.due("whole is no step", 1, x.whole(1));
        Check.due("input behind whole", 8, x.input(5, 3, 9));
        Check.due("step", PlayCutter.DID, x.step(0));
        Check.dueThrow("input behind a step", Check.STATE, () -> x.input(0, 0, 1));
        Check.due("nothing is changed", Integer.MIN_VALUE + 1, x.variable(0, 0));
        Check.dueThrow("input behind a step, no party", Check.BOUNDS, () -> x.input(6, 0, 1));
        Check.dueThrow("input behind a step, no variable", Check.BOUNDS, () -> x.input(0, 4, 1));
        x.reset();
        Check.due("input behind reset", Integer.MIN_VALUE, x.input(0, 0, 3));
        PlayCutter waits = Check.loaded("Aw>Bx;", false);
        Check.due("waits", PlayCutter.WAITS, waits.step(1));
        Check.due("that was no step", 0, waits.input(0, 0, 1));
        PlayCutter none = new PlayCutter();
        Check.dueThrow("input without a play, no party", Check.BOUNDS, () -> none.input(-1, 0, 1));
        Check.dueThrow("input without a play, no variable", Check.BOUNDS, () -> none.input(0, -1, 1));
        Check.dueThrow("input without a play", Check.STATE, () -> none.input(0, 0, 1));
    }

    private static int sentUntilWait(PlayCutter x) {
        int n = 0;
        while (n < 20 && x.step(0) == PlayCutter.DID) {
            n++;
        }
        return n;
    }

    private static void promise9Room() {
        PlayCutter x = Check.loaded("A1>Bx;".repeat(20), false);
        Check.due("room at first", 4, sentUntilWait(x));
        Check.dueThrow("room behind a step", Check.STATE, () -> x.room(8));
        Check.dueThrow("room 0 behind a step", Check.ARGUMENT, () -> x.room(0));
        Check.dueThrow("room 9 behind a step", Check.ARGUMENT, () -> x.room(9));
        Check.due("still full", PlayCutter.WAITS, x.step(0));
        x.reset();
        for (int k = 1; k <= 8; k++) {
            x.room(k);
            Check.due("room " + k, k, sentUntilWait(x));
            x.reset();
            Check.due("room " + k + " behind reset", k, sentUntilWait(x));
            x.reset();
        }
        Check.dueThrow("room 0", Check.ARGUMENT, () -> x.room(0));
        Check.dueThrow("room 9", Check.ARGUMENT, () -> x.room(9));
        Check.dueThrow("room -1", Check.ARGUMENT, () -> x.room(-1));
        x.room(2);
        Check.type(x, "A1>Bx;".repeat(5));
        x.load(false);
        Check.due("room behind load", 2, sentUntilWait(x));
        PlayCutter none = new PlayCutter();
        Check.dueThrow("room 0 without a play", Check.ARGUMENT, () -> none.room(0));
        Check.dueThrow("room without a play", Check.STATE, () -> none.room(8));
        Check.type(none, "A1>Bx;".repeat(5));
        none.load(false);
        Check.due("it stayed 4", 4, sentUntilWait(none));
    }

    private static void promise10Reset() {
        PlayCutter x = Check.loaded("Aw>Bx;Aw:9;B@x{Cy:5;Bx:x-1;}C!3>A;", false);
        x.input(0, 0, 2);
        x.input(2, 2, 4);
        String before = Check.state(x);
        x.run(0, 40);
        x.reset();
        Check.due("reset is as before", before, Check.state(x));
        x.room(1);
        x.step(0);
        x.step(1);
        x.step(1);
        x.reset();
        Check.due("reset amid a round", before, Check.state(x));
        x.step(0);
        x.step(1);
        Check.due("E is asked again", PlayCutter.DID, x.step(1));
        Check.due("no label yet", 0, x.queue(1, 2));
        x.step(1);
        Check.due("the label", 1, x.message(1, 2, 0));
        PlayCutter none = new PlayCutter();
        Check.dueThrow("reset without a play", Check.STATE, none::reset);
    }

    private static void promise11StepSetsAndSends() {
        PlayCutter x = Check.loaded("Aw:x+1;Aw>By;Aw:0;Aw>Bz;Bw:y*z;", false);
        x.input(0, 1, 6);
        Check.dueSteps(x, "BABA", "WDWD");
        Check.due("A's w", 7, x.variable(0, 0));
        Check.due("queue", "[ 7]", Check.queue(x, 0, 1));
        Check.dueSteps(x, "AA", "DD");
        Check.due("queue", "[ 7 0]", Check.queue(x, 0, 1));
        Check.dueSteps(x, "ABAB", "EDED");
        Check.due("B's y", 7, x.variable(1, 2));
        Check.due("queue", "[]", Check.queue(x, 0, 1));
        Check.dueSteps(x, "BBC", "DEE");
        Check.due("B's w", 0, x.variable(1, 0));
        PlayCutter values = Check.loaded("Aw:w/x;Aw:w%x;Ay:w-1;Ay:y<z;Az:000=0;Aw:12/5;Ax:y*0;Aw:w+999;", false);
        values.input(0, 0, Integer.MIN_VALUE);
        values.input(0, 1, -1);
        Check.dueSteps(values, "A", "D");
        Check.due("it wraps", Integer.MIN_VALUE, values.variable(0, 0));
        Check.dueSteps(values, "AAA", "DDD");
        Check.due("-1 < 0", 1, values.variable(0, 2));
        Check.dueSteps(values, "AAA", "DDD");
        Check.due("000 = 0", 1, values.variable(0, 3));
        Check.due("12 / 5", 2, values.variable(0, 0));
        Check.dueSteps(values, "AA", "DE");
        Check.due("2 + 999", 1001, values.variable(0, 0));
    }

    private static void promise11StepTellsAndChooses() {
        PlayCutter x = Check.loaded("A?w{A!3>B;Bx:1;}{A!8>B;Bx:2;}Ay:5;By:5;", false);
        x.input(0, 0, -1);
        Check.dueSteps(x, "BABA", "WDWD");
        Check.due("the label", "[!3]", Check.queue(x, 0, 1));
        Check.due("behind the choice", 1, x.at(0));
        Check.dueSteps(x, "BBB", "DDD");
        Check.due("by label 3", 1, x.variable(1, 1));
        Check.due("and behind", 5, x.variable(1, 2));
        Check.dueSteps(x, "BAA", "EDE");
        x.reset();
        x.input(0, 0, 0);
        Check.dueSteps(x, "AABBB", "DDDDD");
        Check.due("by label 8", 2, x.variable(1, 1));
        Check.due("and behind", 5, x.variable(1, 2));
    }

    private static void promise11StepGoesRound() {
        PlayCutter x = Check.loaded("C@w{Ax:x+1;Cw:w-1;By:y+2;}Cz:9;Bz:9;", false);
        x.input(2, 0, 1);
        Check.dueSteps(x, "ABC", "WWD");
        Check.due("E is asked, nobody told", 0, x.queue(2, 0) + x.queue(2, 1));
        Check.due("still at ROUND", 7, x.at(2));
        Check.dueSteps(x, "C", "D");
        Check.due("A is told first", "[!1]", Check.queue(x, 2, 0));
        Check.due("B is not yet", "[]", Check.queue(x, 2, 1));
        Check.dueSteps(x, "CCAABB", "DDDDDD");
        Check.due("A is at FOLLOW again", 8, x.at(0));
        Check.due("C is at ROUND again", 7, x.at(2));
        Check.dueSteps(x, "CCC", "DDD");
        Check.due("A's label 0", "[!0]", Check.queue(x, 2, 0));
        Check.due("B's label 0", "[!0]", Check.queue(x, 2, 1));
        Check.due("C is behind", 1, x.at(2));
        Check.dueSteps(x, "ABBCABC", "DDDDEEE");
        Check.due("A's x", 1, x.variable(0, 1));
        Check.due("B's y", 2, x.variable(1, 2));
        Check.due("B's z", 9, x.variable(1, 3));
        Check.due("C's z", 9, x.variable(2, 3));
    }

    private static void promise11StepWithEmptyParts() {
        PlayCutter x = Check.loaded("A@w{}A?w{}{Aw:7;}A!1>B;", false);
        Check.dueSteps(x, "AAA", "DDD");
        Check.due("behind the choice", 4, x.at(0));
        Check.due("S was done", 7, x.variable(0, 0));
        Check.dueSteps(x, "ABBA", "DDEE");
        x.reset();
        x.input(0, 0, 1);
        Check.dueSteps(x, "AAAA", "DDDD");
        Check.due("for ever at ROUND", 7, x.at(0));
        PlayCutter inner = Check.loaded("A@w{A?x{A!1>B;}{A!2>B;}}By:1;", false);
        inner.input(0, 0, 1);
        Check.dueSteps(inner, "AAAABB", "DDDDDD");
        Check.due("from the end of HEAR to FOLLOW", 8, inner.at(1));
        Check.due("from the end of CHOOSE to ROUND", 7, inner.at(0));
    }

    private static void promise11RoundWaitsWithoutAsking() {
        PlayCutter x = Check.loaded("A5>Bx;A@w{By:1;Cy:1;}", false);
        x.room(1);
        x.input(0, 0, 1);
        Check.dueSteps(x, "AAAA", "DDWW");
        Check.due("B's queue is full, and C waits for its turn", "[ 5][]", Check.queue(x, 0, 1) + Check.queue(x, 0, 2));
        Check.dueSteps(x, "BA", "DD");
        Check.due("B is told, without asking again", "[!1][]", Check.queue(x, 0, 1) + Check.queue(x, 0, 2));
        Check.dueSteps(x, "AAA", "DDW");
        Check.due("C is told, and E asked again", "[!1][!1]", Check.queue(x, 0, 1) + Check.queue(x, 0, 2));
        Check.dueSteps(x, "BAAACAA", "DDWWDDD");
        Check.due("B and C are told again", "[!1][!1]", Check.queue(x, 0, 1) + Check.queue(x, 0, 2));
    }

    private static void promise12Run() {
        PlayCutter x = Check.loaded("Aw:1;Bw:2;Fw:3;Fx:4;", false);
        Check.due("no turns", 0, x.run(3, 0));
        Check.due("that was no step", 0, x.input(0, 1, 0));
        Check.due("F, A and B", 3, x.run(5, 3));
        Check.due("A's w", 1, x.variable(0, 0));
        Check.due("B's w", 2, x.variable(1, 0));
        Check.due("F's w", 3, x.variable(5, 0));
        Check.due("F's x", 0, x.variable(5, 1));
        Check.due("C to E", 0, x.run(2, 3));
        Check.due("all", 1, x.run(0, 300));
        Check.due("F's x", 4, x.variable(5, 1));
        PlayCutter sends = Check.loaded("A1>Bx;A2>Bx;", false);
        Check.due("B waits, then A sends, B takes, A sends", 3, sends.run(1, 12));
        Check.due("one is left", "[ 2]", Check.queue(sends, 0, 1));
        PlayCutter forever = Check.loaded("A@1{}B@1{}C@1{}D@1{}E@1{}F@1{}", false);
        Check.due("300 turns", 300, forever.run(4, 300));
        PlayCutter none = new PlayCutter();
        for (int p : NO_PARTIES) {
            Check.dueThrow("run of " + p, Check.BOUNDS, () -> x.run(p, 1));
            Check.dueThrow("run of " + p + ", 301 turns, no play", Check.BOUNDS, () -> none.run(p, 301));
        }
        Check.dueThrow("301 turns", Check.ARGUMENT, () -> x.run(0, 301));
        Check.dueThrow("-1 turns", Check.ARGUMENT, () -> x.run(0, -1));
        Check.dueThrow("301 turns, no play", Check.ARGUMENT, () -> none.run(0, 301));
        Check.dueThrow("no turns, no play", Check.STATE, () -> none.run(0, 0));
    }

    private static void promise13At() {
        PlayCutter x = Check.loaded("Aw:1;A1>Bx;A!1>C;A?w{}{}A@0{Dw:1;}", false);
        Check.due("SET", 1, x.at(0));
        Check.due("TAKE", 3, x.at(1));
        Check.due("HEAR", 5, x.at(2));
        Check.due("FOLLOW", 8, x.at(3));
        Check.due("none", 0, x.at(4));
        Check.dueSteps(x, "A", "D");
        Check.due("SEND", 2, x.at(0));
        Check.dueSteps(x, "A", "D");
        Check.due("TELL", 4, x.at(0));
        Check.dueSteps(x, "A", "D");
        Check.due("CHOOSE", 6, x.at(0));
        Check.dueSteps(x, "A", "D");
        Check.due("ROUND", 7, x.at(0));
        Check.dueSteps(x, "AA", "DD");
        Check.due("ended", 0, x.at(0));
        PlayCutter none = new PlayCutter();
        for (int p : NO_PARTIES) {
            Check.dueThrow("at of " + p, Check.BOUNDS, () -> x.at(p));
            Check.dueThrow("at of " + p + " without a play", Check.BOUNDS, () -> none.at(p));
            Check.dueThrow("step of " + p, Check.BOUNDS, () -> x.step(p));
            Check.dueThrow("step of " + p + " without a play", Check.BOUNDS, () -> none.step(p));
        }
        Check.dueThrow("at without a play", Check.STATE, () -> none.at(0));
        Check.dueThrow("step without a play", Check.STATE, () -> none.step(0));
    }

    private static void wrongCallsChangeNothing() {
        PlayCutter x = Check.loaded("A@w{A7>Bx;Aw:w-1;}B!3>C;", false);
        x.input(0, 0, 2);
        x.whole(3);
        x.run(0, 14);
        String before = Check.state(x);
        Check.dueThrow("run", Check.ARGUMENT, () -> x.run(0, 301));
        Check.dueThrow("run", Check.BOUNDS, () -> x.run(6, 6));
        Check.dueThrow("step", Check.BOUNDS, () -> x.step(6));
        Check.dueThrow("input", Check.STATE, () -> x.input(0, 0, 9));
        Check.dueThrow("room", Check.STATE, () -> x.room(1));
        Check.dueThrow("whole", Check.ARGUMENT, () -> x.whole(2001));
        Check.due("nothing is changed", before, Check.state(x));
    }
}
