/** Promises 18 and 19: the play done as it is written. */
public final class WholeTest {

    public static void main(String[] args) {
        promise18EachStatementIsOne();
        promise18WithoutWhatIsPutIn();
        promise18Rounds();
        promise18WrongCalls();
        promise19Wanted();
        Check.end();
    }

    private static void promise18EachStatementIsOne() {
        String play = "Aw:3;Aw*2>Bx;B!5>C;A?w{Cy:1;}{}A?0{}{Cy:y+1;}B?x{}{}";
        PlayCutter x = Check.loaded(play, true);
        for (int n = 0; n < 8; n++) {
            Check.due("whole(" + n + ")", PlayCutter.NONE, x.whole(n));
        }
        Check.due("whole(8)", 8, x.whole(8));
        Check.due("whole(2000)", 8, x.whole(2000));
        Check.due("A's w", 3, x.wanted(0, 0));
        Check.due("B's x", 6, x.wanted(1, 1));
        Check.due("C's y", 2, x.wanted(2, 2));
        Check.due("the variables stay", 0, x.variable(0, 0));
        Check.due("no step was made", 0, x.input(0, 0, 8));
    }

    private static void promise18WithoutWhatIsPutIn() {
        PlayCutter x = new PlayCutter();
        Check.type(x, "A?w{Bx:1;}{Bx:2;}");
        Check.due("two are put in", 2, x.load(true));
        Check.due("a choice and a set", 2, x.whole(2));
        Check.due("B's x", 2, x.wanted(1, 1));
        x.input(0, 0, -5);
        Check.due("by the input", 2, x.whole(2));
        Check.due("B's x", 1, x.wanted(1, 1));
        x.run(0, 30);
        Check.due("behind steps", 2, x.whole(2));
        Check.due("the same", 1, x.wanted(1, 1));
    }

    private static void promise18Rounds() {
        PlayCutter x = Check.loaded("A@w{B@x{Cy:y+1;Bx:x-1;}Aw:w-1;B2>Ax;}", false);
        x.input(0, 0, 2);
        x.input(1, 1, 3);
        // The outer E is asked 3 times, the inner one 4 times and once more; 6 and 4 are done in them.
        Check.due("all", 3 + 5 + 6 + 4, x.whole(2000));
        Check.due("just all", 18, x.whole(18));
        Check.due("but the last asking", PlayCutter.NONE, x.whole(17));
        Check.due("C's y", 3, x.wanted(2, 2));
        PlayCutter forever = Check.loaded("A@1{}", false);
        Check.due("for ever", PlayCutter.NONE, forever.whole(2000));
        PlayCutter never = Check.loaded("A@0{Bw:1;}", false);
        Check.due("never round", 1, never.whole(1));
        PlayCutter nested = Check.loaded("A@w{A?1{A?1{A@0{}}{}}{}Aw:w-1;}Az:1;", false);
        nested.input(0, 0, 2);
        Check.due("out of blocks", 3 + 2 * 4 + 1, nested.whole(2000));
        Check.due("behind", 1, nested.wanted(0, 3));
        PlayCutter six = Check.loaded("A?w{}{".repeat(3) + "A?x{".repeat(3) + "Ay:1;Ay:2;" + "}{}".repeat(3) + "Az:y;"
                + "}".repeat(3) + "Az:z+1;", false);
        six.input(0, 1, 1);
        Check.due("out of six blocks", 6 + 2 + 1 + 1, six.whole(2000));
        Check.due("behind them", 3, six.wanted(0, 3));
    }

    private static void promise18WrongCalls() {
        PlayCutter none = new PlayCutter();
        PlayCutter x = Check.loaded("Aw:1;", false);
        for (int n : new int[] {-1, 2001, Integer.MIN_VALUE, Integer.MAX_VALUE}) {
            Check.dueThrow("whole(" + n + ")", Check.ARGUMENT, () -> x.whole(n));
            Check.dueThrow("whole(" + n + ") without a play", Check.ARGUMENT, () -> none.whole(n));
        }
        Check.dueThrow("whole(0) without a play", Check.STATE, () -> none.whole(0));
        Check.due("whole(2000)", 1, x.whole(2000));
    }

    private static void promise19Wanted() {
        PlayCutter x = Check.loaded("Aw:w+1;Aw>Bx;Fz:w;Aw:9;", false);
        Check.due("none yet", 0, x.wanted(0, 0));
        x.input(0, 0, 4);
        x.input(5, 0, 6);
        Check.due("none yet", 0, x.wanted(0, 0));
        x.whole(0);
        Check.due("the inputs", 4, x.wanted(0, 0));
        x.whole(2);
        Check.due("A's w behind two", 5, x.wanted(0, 0));
        Check.due("B's x behind two", 5, x.wanted(1, 1));
        Check.due("F's z behind two", 0, x.wanted(5, 3));
        x.input(0, 0, 7);
        x.run(0, 300);
        Check.due("till the next whole()", 5, x.wanted(0, 0));
        x.reset();
        Check.due("behind reset", 5, x.wanted(0, 0));
        x.whole(4);
        Check.due("A's w", 9, x.wanted(0, 0));
        Check.due("B's x", 8, x.wanted(1, 1));
        Check.due("F's z", 6, x.wanted(5, 3));
        Check.type(x, "#");
        Check.dueThrow("load", Check.ARGUMENT, () -> x.load(true));
        Check.due("behind a load that threw", 6, x.wanted(5, 3));
        Check.type(x, "Aw:1;");
        x.load(true);
        Check.due("behind load", 0, x.wanted(5, 3));
    }
}
