/** The boundaries of running: queues full and empty, empty parts, the end; and of whole(). */
public final class RunningEdgeTest {

    private static final int NONE = PlayCutter.NONE;

    public static void main(String[] args) {
        roomIsFourAtFirst();
        aQueueTakesAtMostRoom();
        eachQueueHasRoomOfItsOwn();
        fromAnEmptyQueueAPartyWaits();
        firstInFirstOut();
        aQueueFromEachToEachOther();
        anEmptyPartHasEnded();
        behindTheLastActionOfAPart();
        aRoundLeadsNoneToFive();
        aRoundLeadsThoseBeforeAndBehind();
        aRoundIsAskedOnce();
        inputUntilAStep();
        resetFromAnywhere();
        runZeroToThreeHundredTurns();
        behindFiveComesZero();
        outOfSixBlocks();
        wholeJustEnough();
        wholeUpToTwoThousand();
        wantedBehindEachNumber();
        fiveHundredAndTwelveCalls();
        Check.end();
    }

    private static int stepsUntilWait(PlayCutter x, int party) {
        int n = 0;
        while (n < 100 && x.step(party) == PlayCutter.DID) {
            n++;
        }
        return n;
    }

    /** "it takes at most ROOM, 4 at first". */
    private static void roomIsFourAtFirst() {
        PlayCutter x = Check.loaded("A1>Bx;".repeat(6), false);
        Check.dueSteps(x, "AAA", "DDD");
        Check.due("three are in it", 3, x.queue(0, 1));
        Check.dueSteps(x, "A", "D");
        Check.due("four are in it", 4, x.queue(0, 1));
        Check.dueSteps(x, "AA", "WW");
        Check.due("four stay in it", 4, x.queue(0, 1));
        Check.dueSteps(x, "BAA", "DDW");
        Check.due("four again", 4, x.queue(0, 1));
    }

    /** "When a message is to come to a queue that has ROOM of them ... the party WAITS". */
    private static void aQueueTakesAtMostRoom() {
        for (int k = 1; k <= 8; k++) {
            dueFull("A1>Bx;".repeat(20), k, 1, 0);
            dueFull("A!1>B;".repeat(20), k, 1, 0);
            // The round is asked before each label, and once more before the one that has to wait.
            dueFull("A@1{Bx:1;}", k, 2, 1);
        }
    }

    private static void dueFull(String play, int room, int stepsOfOne, int stepsBeforeWait) {
        PlayCutter x = Check.loaded(play, false);
        x.room(room);
        Check.due(play + " until the queue is full", room * stepsOfOne + stepsBeforeWait, stepsUntilWait(x, 0));
        Check.due("so many are in it", room, x.queue(0, 1));
        String before = Check.state(x);
        Check.dueSteps(x, "AA", "WW");
        Check.due("nothing is changed by waiting", before, Check.state(x));
        Check.dueSteps(x, "B", "D");
        Check.due("one has gone", room - 1, x.queue(0, 1));
        Check.due("room for one more", stepsOfOne, stepsUntilWait(x, 0));
        Check.due("full again", room, x.queue(0, 1));
    }

    /** A full queue is none of the others' business: not that to a third, and not the one back. */
    private static void eachQueueHasRoomOfItsOwn() {
        PlayCutter x = Check.loaded("A1>Bx;A2>Cx;A3>Dx;A4>Bx;B5>Ax;", false);
        x.room(1);
        Check.dueSteps(x, "AAAA", "DDDW");
        Check.due("to B, C and D", "[ 1][ 2][ 3]", Check.queue(x, 0, 1) + Check.queue(x, 0, 2) + Check.queue(x, 0, 3));
        Check.dueSteps(x, "CDA", "DDW");
        Check.dueSteps(x, "BBA", "DWD");
        Check.dueSteps(x, "BBA", "DDD");
        Check.due("A's x", 5, x.variable(0, 1));
    }

    /** "or to go from an empty one, the party WAITS: nothing is changed, and no step is made". */
    private static void fromAnEmptyQueueAPartyWaits() {
        String[] plays = {"A1>Bx;By:1;", "A!1>B;By:1;", "A@w{By:1;}"};
        int[] stepsOfA = {1, 1, 2};
        for (int i = 0; i < plays.length; i++) {
            PlayCutter x = Check.loaded("C9>Bw;" + plays[i], false);
            Check.dueSteps(x, "CB", "DD");
            x.reset();
            String before = Check.state(x);
            Check.dueSteps(x, "BB", "WW");
            Check.due("nothing is changed", before, Check.state(x));
            Check.due("no step was made", 0, x.input(3, 0, 0));
            Check.dueSteps(x, "CBB", "DDW");
            Check.due("the queue is still empty", 0, x.queue(0, 1));
            Check.due("A's steps", stepsOfA[i], x.run(0, 1) + (stepsOfA[i] > 1 ? x.run(0, 1) : 0));
            Check.due("one is in it", 1, x.queue(0, 1));
            Check.dueSteps(x, "B", "D");
            Check.due("none is in it", 0, x.queue(0, 1));
        }
    }

    /** "first in, first out": with every room, through more messages than any room holds. */
    private static void firstInFirstOut() {
        StringBuilder play = new StringBuilder();
        for (int i = 0; i < 33; i++) {
            play.append('A').append(i * 7 % 10).append(">Bx;");
        }
        for (int room = 1; room <= 8; room++) {
            PlayCutter x = Check.loaded(play.toString(), false);
            x.room(room);
            Check.due("filled", room, stepsUntilWait(x, 0));
            for (int i = 0; i < 33; i++) {
                Check.due("last message", Math.min(i + room - 1, 32) * 7 % 10,
                        x.message(0, 1, x.queue(0, 1) - 1));
                Check.due("first message", i * 7 % 10, x.message(0, 1, 0));
                Check.due("taken", PlayCutter.DID, x.step(1));
                Check.due("B's x", i * 7 % 10, x.variable(1, 1));
                x.step(0);
            }
            Check.due("all are taken", PlayCutter.ENDED, x.step(1));
        }
    }

    /** "From each party to each other one there is a QUEUE": 30 of them, of which one is used. */
    private static void aQueueFromEachToEachOther() {
        for (int p = 0; p < 6; p++) {
            for (int q = 0; q < 6; q++) {
                if (p != q) {
                    PlayCutter x = Check.loaded("" + (char) ('A' + p) + "7>" + (char) ('A' + q) + "x;", false);
                    Check.due("sent", PlayCutter.DID, x.step(p));
                    dueOneMessage(x, p, q);
                    Check.due("taken", PlayCutter.DID, x.step(q));
                    Check.due("the variable", 7, x.variable(q, 1));
                    Check.due("none is left", 0, x.queue(p, q));
                }
            }
        }
    }

    private static void dueOneMessage(PlayCutter x, int p, int q) {
        for (int from = 0; from < 6; from++) {
            for (int to = 0; to < 6; to++) {
                if (from != to) {
                    String due = from == p && to == q ? "[ 7]" : "[]";
                    Check.due("queue " + from + " " + to, due, Check.queue(x, from, to));
                }
            }
        }
    }

    /** "or it has ENDED, when there is none": at once when its part is empty. */
    private static void anEmptyPartHasEnded() {
        PlayCutter x = Check.loaded("Aw:1;A?w{}{}", false);
        String before = Check.state(x);
        for (int p = 1; p < 6; p++) {
            Check.due("at", 0, x.at(p));
            Check.due("step", PlayCutter.ENDED, x.step(p));
        }
        Check.due("nothing is changed", before, Check.state(x));
        Check.due("no step was made", 0, x.input(0, 0, 0));
        Check.dueSteps(x, "AA", "DD");
        Check.due("A is at none", 0, x.at(0));
        before = Check.state(x);
        Check.dueSteps(x, "AA", "EE");
        Check.due("nothing is changed", before, Check.state(x));
        Check.dueThrow("a step was made", Check.STATE, () -> x.input(0, 0, 1));
    }

    /** "Behind the last action of a part (or when the part is empty) ... belongs to the step before". */
    private static void behindTheLastActionOfAPart() {
        dueAts("A?1{A?1{A?1{}{}}{}}{}Ax:1;", "AAAA", "6661 0");
        dueAts("A?1{A?1{A?1{Ay:1;}{}}{}}{}", "AAAA", "6661 0");
        dueAts("A?0{}{A?0{}{A?0{}{}}}Ax:1;", "AAAA", "6661 0");
        dueAts("A@1{}", "AAA", "777 7");
        dueAts("A@0{}Ax:1;", "AA", "71 0");
        dueAts("A@1{A?1{A?1{}{}}{}}", "AAAA", "7667 6");
        dueAts("A@1{A@0{}}", "AAAA", "7777 7");
        dueAts("A@1{Ax:1;}", "AAAA", "7171 7");
        dueAts("A!1>B;", "AB", "45 0");
        dueAts("A?1{A!1>B;}{A!2>B;Bx:1;}By:1;", "AABB", "6451 0");
        dueAts("A?0{A!1>B;}{A!2>B;Bx:1;}By:1;", "AABBB", "64511 0");
        dueAts("A!1>B;A!2>B;A!3>B;", "AAABBB", "444555 0");
        dueAts("A@1{A?1{A!1>B;}{A!2>B;}}", "AAAABB", "776485 8");
        dueAts("A@1{Bx:1;}", "AABB", "7781 8");
        dueAts("A@1{C@1{Bx:1;}}", "AAACCCBBB", "777877881 8");
    }

    /** Asks at what each party is before its step, and at what the last of them is then. */
    private static void dueAts(String play, String parties, String due) {
        PlayCutter x = Check.loaded(play, false);
        StringBuilder got = new StringBuilder();
        for (char c : parties.toCharArray()) {
            got.append(x.at(c - 'A'));
            Check.due(play + ": step of " + c, PlayCutter.DID, x.step(c - 'A'));
        }
        got.append(' ').append(x.at(parties.charAt(parties.length() - 1) - 'A'));
        Check.due(play + ": at", due, got.toString());
    }

    /** "each of the led, by rising numbers, is sent the label ..., a step for each". */
    private static void aRoundLeadsNoneToFive() {
        for (int led = 0; led <= 5; led++) {
            for (int answer = 0; answer <= 1; answer++) {
                StringBuilder play = new StringBuilder("A@w{Ay:1;");
                for (int q = led; q >= 1; q--) {
                    play.append((char) ('A' + q)).append("x:1;");
                }
                PlayCutter x = Check.loaded(play + "}Az:1;A1>Bw;", false);
                x.input(0, 0, answer);
                for (int told = 0; told < led; told++) {
                    Check.dueSteps(x, "A", "D");
                    dueTold(x, told, answer);
                    Check.due("still at ROUND", 7, x.at(0));
                }
                Check.dueSteps(x, "A", "D");
                dueTold(x, led, answer);
                Check.due("behind the last of these steps", 1, x.at(0));
                Check.dueSteps(x, "A", "D");
                Check.due("its part, or behind", answer, x.variable(0, 2));
                Check.due("its part, or behind", 1 - answer, x.variable(0, 3));
            }
        }
    }

    private static void dueTold(PlayCutter x, int told, int answer) {
        for (int q = 1; q < 6; q++) {
            Check.due("told " + q, q <= told ? "[!" + answer + "]" : "[]", Check.queue(x, 0, q));
        }
    }

    /** The led may have lesser numbers than the one who leads, or greater ones. */
    private static void aRoundLeadsThoseBeforeAndBehind() {
        for (int p = 0; p < 6; p++) {
            StringBuilder play = new StringBuilder((char) ('A' + p) + "@w{");
            for (int q = 5; q >= 0; q--) {
                play.append(q == p ? "" : (char) ('A' + q) + "x:1;");
            }
            PlayCutter x = Check.loaded(play + "}", false);
            Check.due("asked", PlayCutter.DID, x.step(p));
            for (int q = 0; q < 6; q++) {
                if (q != p) {
                    Check.due("not told before its turn", 0, x.queue(p, q));
                    Check.due("told", PlayCutter.DID, x.step(p));
                    Check.due(q + " is told by " + p, "[!0]", Check.queue(x, p, q));
                }
            }
            Check.due("ended", PlayCutter.ENDED, x.step(p));
        }
    }

    /** "E is not asked again when one of them has to wait": asking would be a step. */
    private static void aRoundIsAskedOnce() {
        PlayCutter x = Check.loaded("A1>Bx;A2>Cx;A@w{Bx:1;Cx:1;}", false);
        x.room(1);
        Check.dueSteps(x, "AAA", "DDD");
        Check.dueSteps(x, "AAA", "WWW");
        Check.dueSteps(x, "BAA", "DDW");
        Check.dueSteps(x, "AACA", "WWDD");
        Check.due("both are told, and A has ended", "[!0][!0]0",
                Check.queue(x, 0, 1) + Check.queue(x, 0, 2) + x.at(0));
    }

    /** Promise 8: "what it was", for the least and the greatest int, until a step is made. */
    private static void inputUntilAStep() {
        int[] values = {Integer.MIN_VALUE, -1, 0, 1, Integer.MAX_VALUE};
        PlayCutter x = Check.loaded("A1>Bx;", false);
        for (int p : new int[] {0, 5}) {
            for (int v : new int[] {0, 3}) {
                int before = 0;
                for (int value : values) {
                    Check.due("input was", before, x.input(p, v, value));
                    Check.due("the variable is", value, x.variable(p, v));
                    before = value;
                }
            }
        }
        Check.dueSteps(x, "BCF", "WEE");
        Check.due("run of no turn", 0, x.run(0, 0));
        Check.due("run of turns that wait or have ended", 0, x.run(1, 5));
        Check.due("no step was made", Integer.MAX_VALUE, x.input(5, 3, 4));
        Check.due("run of a turn", 1, x.run(0, 1));
        Check.dueThrow("a step was made", Check.STATE, () -> x.input(5, 3, 5));
        Check.dueThrow("a step was made", Check.STATE, () -> x.room(5));
        x.reset();
        Check.due("it was not changed", 4, x.input(5, 3, 6));
        Check.type(x, "Aw:1;");
        x.load(false);
        Check.due("input behind load", 0, x.input(5, 3, 7));
    }

    /** Promise 10: at each number of turns from none to the end, reset() makes all as before them. */
    private static void resetFromAnywhere() {
        for (int turns = 0; turns <= 60; turns += 3) {
            PlayCutter x = Check.loaded("A@w{A7>Bx;Aw:w-1;C!1>B;}A?y{A!1>B;}{A!2>B;}Bz:9;", false);
            x.input(0, 0, 2);
            x.input(1, 3, -5);
            x.room(1);
            x.whole(3);
            String before = Check.state(x);
            x.run(0, turns);
            x.reset();
            Check.due("reset behind " + turns + " turns", before, Check.state(x));
            Check.due("no step was made", 2, x.input(0, 0, 2));
            // Behind reset all goes as at first; a round half told is not gone on with.
            Check.dueSteps(x, "BCAAABA", "WWDDDDD");
            Check.due("sent again", "[ 7]", Check.queue(x, 0, 1));
            Check.dueSteps(x, "AAA", "DDW");
            Check.due("room stays 1", "[ 7]", Check.queue(x, 0, 1));
        }
    }

    /** Promise 12: "n is not 0 .. 300" is refused; the turns are as many as n. */
    private static void runZeroToThreeHundredTurns() {
        for (int n : new int[] {0, 1, 2, 299, 300}) {
            PlayCutter x = Check.loaded("A@1{}B@1{}C@1{}D@1{}E@1{}F@1{}", false);
            Check.due("run " + n, n, x.run(0, n));
            PlayCutter ended = Check.loaded("Aw:1;", false);
            Check.due("run " + n + ", one can", Math.min(n, 1), ended.run(0, n));
            PlayCutter waits = Check.loaded("A1>Bx;".repeat(10), false);
            Check.due("run " + n + " of B alone", 0, waits.run(1, Math.min(n, 5)));
        }
    }

    /** Promise 12: "of the party first, the one with the next number, and so on (behind 5 comes 0)". */
    private static void behindFiveComesZero() {
        for (int first = 0; first < 6; first++) {
            for (int n = 0; n <= 13; n++) {
                PlayCutter x = Check.loaded("A@1{Aw:w+1;}B@1{Bw:w+1;}C@1{Cw:w+1;}D@1{Dw:w+1;}E@1{Ew:w+1;}F@1{Fw:w+1;}",
                        false);
                Check.due("all can", n, x.run(first, n));
                for (int p = 0; p < 6; p++) {
                    int turns = (n + 5 - (p - first + 6) % 6) / 6;
                    Check.due("run(" + first + ", " + n + "): w of " + p, turns / 2, x.variable(p, 0));
                    Check.due("run(" + first + ", " + n + "): at of " + p, turns % 2 == 0 ? 7 : 1, x.at(p));
                }
            }
        }
    }

    /** In the innermost of 6 blocks, of each kind, all goes on and comes out again: in steps and in whole(). */
    private static void outOfSixBlocks() {
        dueOut("A?1{".repeat(6), "}{}".repeat(6), 6 + 2 + 1);
        dueOut("A?0{}{".repeat(6), "}".repeat(6), 6 + 2 + 1);
        dueOut("A?1{".repeat(3) + "A?0{}{".repeat(3), "}".repeat(3) + "}{}".repeat(3), 6 + 2 + 1);
        // Each round is asked once more when it has been done.
        dueOut("A@w{".repeat(6), "}".repeat(6), 6 + 2 + 6 + 1);
        dueOut("A?1{A@w{".repeat(3), "}}{}".repeat(3), 6 + 2 + 3 + 1);
    }

    private static void dueOut(String open, String closed, int due) {
        PlayCutter x = Check.loaded(open + "Ax:x+1;Aw:0;" + closed + "Ay:x+1;", false);
        x.input(0, 0, 1);
        Check.due("whole() of " + open, due, x.whole(2000));
        Check.due("x in whole()", 1, x.wanted(0, 1));
        Check.due("y in whole()", 2, x.wanted(0, 2));
        Check.due("steps of " + open, due, x.run(0, 300));
        Check.due("x in steps", 1, x.variable(0, 1));
        Check.due("y in steps", 2, x.variable(0, 2));
    }

    /** Promise 18: "Answers how many, if all was done then; NONE if not." */
    private static void wholeJustEnough() {
        String[] plays = {"Aw:1;", "A1>Bx;", "A!1>B;", "A?w{}{}", "A?1{}{}", "A@w{}", "A?w{Ax:1;}{}", "A?1{Ax:1;}{}",
            "A@0{Ax:1;}Ay:1;", "Az:2;A@z{Az:z-1;}", "A?1{A?1{A?1{}{}}{}}{}", "A!1>B;A!2>B;Bx:1;"};
        int[] due = {1, 1, 1, 1, 1, 1, 1, 2, 2, 6, 3, 3};
        for (int i = 0; i < plays.length; i++) {
            PlayCutter x = Check.loaded(plays[i], false);
            for (int n = 0; n < due[i]; n++) {
                Check.due("whole(" + n + ") of " + plays[i], NONE, x.whole(n));
            }
            Check.due("just enough for " + plays[i], due[i], x.whole(due[i]));
            Check.due("one more for " + plays[i], due[i], x.whole(due[i] + 1));
            Check.due("most for " + plays[i], due[i], x.whole(2000));
        }
    }

    /** Promise 18: "n is not 0 .. 2000": a play that takes 1999, 2000 or 2001. */
    private static void wholeUpToTwoThousand() {
        PlayCutter odd = Check.loaded("A@w{Aw:w-1;}", false);
        odd.input(0, 0, 999);
        Check.due("1999 of 1998", NONE, odd.whole(1998));
        Check.due("1999 of 1999", 1999, odd.whole(1999));
        Check.due("1999 of 2000", 1999, odd.whole(2000));
        odd.input(0, 0, 1000);
        Check.due("2001 of 2000", NONE, odd.whole(2000));
        Check.due("w was 0 then, but not yet asked", 0, odd.wanted(0, 0));
        PlayCutter even = Check.loaded("A@w{Aw:w-1;}Ax:1;", false);
        even.input(0, 0, 999);
        Check.due("2000 of 1999", NONE, even.whole(1999));
        Check.due("x was not set", 0, even.wanted(0, 1));
        Check.due("2000 of 2000", 2000, even.whole(2000));
        Check.due("x was set", 1, even.wanted(0, 1));
        PlayCutter forever = Check.loaded("A@1{Aw:w+1;}", false);
        Check.due("for ever", NONE, forever.whole(2000));
        Check.due("so many were done", 1000, forever.wanted(0, 0));
        Check.dueThrow("2001", Check.ARGUMENT, () -> forever.whole(2001));
        Check.dueThrow("-1", Check.ARGUMENT, () -> forever.whole(-1));
        Check.due("they did nothing", 1000, forever.wanted(0, 0));
    }

    /** Promise 19: "with what was done until it answered (also NONE); 0 when there was none since load()". */
    private static void wantedBehindEachNumber() {
        PlayCutter x = Check.loaded("A@w{Aw:w-1;Aw>Bx;A!1>B;}Ay:7;", false);
        x.input(0, 0, 2);
        x.input(1, 1, 9);
        Check.due("A's w before whole()", 0, x.wanted(0, 0));
        Check.due("B's x before whole()", 0, x.wanted(1, 1));
        int[] w = {2, 2, 1, 1, 1, 1, 0, 0, 0, 0, 0};
        int[] sent = {9, 9, 9, 1, 1, 1, 1, 0, 0, 0, 0};
        for (int n = 0; n <= 10; n++) {
            Check.due("whole(" + n + ")", n < 10 ? NONE : 10, x.whole(n));
            Check.due("A's w behind whole(" + n + ")", w[n], x.wanted(0, 0));
            Check.due("B's x behind whole(" + n + ")", sent[n], x.wanted(1, 1));
            Check.due("A's y behind whole(" + n + ")", n < 10 ? 0 : 7, x.wanted(0, 2));
        }
        Check.type(x, "Bx:1;");
        x.load(false);
        Check.due("A's y behind load", 0, x.wanted(0, 2));
        x.whole(0);
        Check.due("A's y behind whole(0)", 0, x.wanted(0, 2));
    }

    /** "An object is used for at most 512 calls": the last of them answer as the first. */
    private static void fiveHundredAndTwelveCalls() {
        String play = "A?w{Bw:1;Cw:1;Dw:1;Ew:1;Fw:1;}{}".repeat(5);
        PlayCutter x = new PlayCutter();
        for (int calls = 0; calls + 22 <= 510; calls += 22) {
            Check.type(x, play);
            Check.due("labels", 50, x.load(true));
            // A chooses and tells 0 to five, five times; each of these hears it five times.
            Check.due("all is done", 5 * 6 + 5 * 5, x.run(0, 300));
        }
        for (int call = 507; call <= 511; call++) {
            Check.due("whole, call " + call, 5, x.whole(2000));
        }
        Check.due("length, call 512", 5 * 56, x.length(0));
    }
}
