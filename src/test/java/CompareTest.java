import java.util.List;

/** Random plays, cut, run and done as written, each compared with the oracle, call by call. */
public final class CompareTest {

    private static final int PLAYS = 4000;

    private int cut = 0;
    private int unaware = 0;
    private int tooMany = 0;
    private int ended = 0;

    public static void main(String[] args) {
        CompareTest test = new CompareTest();
        RandomPlays random = new RandomPlays(20261115);
        int plays = args.length > 0 ? Integer.parseInt(args[0]) : PLAYS;
        for (int i = 0; i < plays && Check.wrongSoFar() < 20; i++) {
            test.compare(random.next(), random);
        }
        System.out.println(test.cut + " cut, " + test.unaware + " with a party unaware, " + test.tooMany
                + " with too many statements, " + test.ended + " ended");
        Check.due("each kind of outcome occurred", true,
                test.cut > 0 && test.unaware > 0 && test.tooMany > 0 && test.ended > 0);
        Check.end();
    }

    private void compare(List<Oracle.Line> play, RandomPlays random) {
        StringBuilder written = new StringBuilder();
        Oracle.write(play, written);
        String text = written.toString();
        for (boolean putIn : new boolean[] {false, true}) {
            Oracle due = new Oracle(play, putIn);
            PlayCutter x = new PlayCutter();
            Check.type(x, text);
            compareLoad(text, putIn, x, due);
            if (due.thrown.isEmpty()) {
                compareParts(text, putIn, due);
                compareSteps(text, x, due, random);
                compareEnd(text, putIn, due, random);
            }
        }
    }

    private void compareLoad(String text, boolean putIn, PlayCutter x, Oracle due) {
        String what = "load(" + putIn + ") of " + text;
        String thrown = "";
        try {
            Check.due(what, due.putIn, x.load(putIn));
            cut++;
        } catch (IllegalStateException | UnsupportedOperationException e) {
            thrown = e.getClass().getSimpleName();
            unaware += e instanceof IllegalStateException ? 1 : 0;
            tooMany += e instanceof UnsupportedOperationException ? 1 : 0;
        }
        Check.due(what + " threw", due.thrown, thrown);
        Check.due(what + ", fault()", due.fault, x.fault());
        Check.due(what + ", who()", due.who, x.who());
    }

    /** An object for each part, so that none is used for more than 512 calls. */
    private void compareParts(String text, boolean putIn, Oracle due) {
        for (int p = 0; p < 6; p++) {
            Check.due("part " + p + " of " + text, due.text(p), Check.part(Check.loaded(text, putIn), p));
        }
    }

    private void compareSteps(String text, PlayCutter x, Oracle due, RandomPlays random) {
        setInputs(x, due, random);
        for (int i = 0; i < 60; i++) {
            int p = random.below(6);
            String what = text + ": step " + i + " of party " + p;
            Check.due(what, due.step(p), x.step(p));
            Check.due(what + ", at", due.at(p), x.at(p));
            int q = (p + 1 + random.below(5)) % 6;
            Check.due(what + ", queue to " + q, due.queue(p, q), Check.queue(x, p, q));
            int v = random.below(4);
            Check.due(what + ", variable " + v, due.variables[p][v], x.variable(p, v));
        }
    }

    private void setInputs(PlayCutter x, Oracle due, RandomPlays random) {
        int room = 1 + random.below(8);
        due.room = room;
        x.room(room);
        for (int p = 0; p < 6; p++) {
            int v = random.below(4);
            int value = random.below(8) == 0 ? Integer.MIN_VALUE + random.below(3) : random.below(5);
            Check.due("input", due.inputs[p][v], x.input(p, v, value));
            due.inputs[p][v] = value;
            due.variables[p][v] = value;
        }
    }

    /** Goes on to the end, if the play has one: then all is as if it had been done as written. */
    private void compareEnd(String text, boolean putIn, Oracle due, RandomPlays random) {
        PlayCutter x = Check.loaded(text, putIn);
        due.reset();
        for (int p = 0; p < 6; p++) {
            for (int v = 0; v < 4; v++) {
                x.input(p, v, due.inputs[p][v]);
            }
        }
        x.room(due.room);
        int some = random.below(30);
        Check.due(text + ": whole(" + some + ")", due.whole(some), x.whole(some));
        compareWanted(text, x, due);
        int done = due.whole(2000);
        Check.due(text + ": whole(2000)", done, x.whole(2000));
        compareWanted(text, x, due);
        int did = 1;
        for (int i = 0; i < 80 && did > 0; i++) {
            int first = random.below(6);
            did = runOracle(due, first, 300);
            Check.due(text + ": run(" + first + ", 300)", did, x.run(first, 300));
        }
        for (int p = 0; p < 6; p++) {
            Check.due(text + ": at(" + p + ")", due.at(p), x.at(p));
        }
        if (did == 0 && done != PlayCutter.NONE) {
            ended++;
            compareWithWhole(text, x);
        }
    }

    private static void compareWanted(String text, PlayCutter x, Oracle due) {
        for (int p = 0; p < 6; p++) {
            for (int v = 0; v < 4; v++) {
                Check.due(text + ": wanted(" + p + ", " + v + ")", due.wanted[p][v], x.wanted(p, v));
            }
        }
    }

    private static int runOracle(Oracle due, int first, int n) {
        int did = 0;
        for (int i = 0; i < n; i++) {
            did += due.step((first + i) % 6) == 1 ? 1 : 0;
        }
        return did;
    }

    private static void compareWithWhole(String text, PlayCutter x) {
        for (int p = 0; p < 6; p++) {
            Check.due(text + ": at the end party " + p + " is at", 0, x.at(p));
            for (int v = 0; v < 4; v++) {
                Check.due(text + ": at the end variable " + p + " " + v, x.wanted(p, v), x.variable(p, v));
            }
        }
        for (int p = 0; p < 6; p++) {
            Check.due(text + ": at the end queue to " + p, 0, x.queue((p + 1) % 6, p));
        }
    }
}
