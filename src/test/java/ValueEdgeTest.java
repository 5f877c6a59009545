/** The boundaries of what an expression is worth: in steps, in whole(), and wherever one is asked. */
public final class ValueEdgeTest {

    private static final int MIN = Integer.MIN_VALUE;
    private static final int MAX = Integer.MAX_VALUE;
    private static final int[] VALUES = {MIN, MIN + 1, -46341, -1000, -999, -2, -1, 0, 1, 2, 999, 1000, 46340, 46341,
        MAX - 1, MAX};

    public static void main(String[] args) {
        itWrapsAsIntsDo();
        divisionByZeroIsZero();
        divisionGoesTowardsZero();
        lessAndEqual();
        eachFormOfTerms();
        notZeroIsChosen();
        notZeroGoesRound();
        theVariablesAreThoseOfTheParty();
        Check.end();
    }

    /** Asks for what A's w becomes by an expression, with its x and y, by a step and by whole(). */
    private static void dueValue(String expression, int x, int y, int due) {
        PlayCutter cutter = Check.loaded("Aw:" + expression + ";", false);
        cutter.input(0, 1, x);
        cutter.input(0, 2, y);
        String what = expression + " with x " + x + ", y " + y;
        Check.due("whole", 1, cutter.whole(1));
        Check.due(what + " in whole()", due, cutter.wanted(0, 0));
        Check.due("step", PlayCutter.DID, cutter.step(0));
        Check.due(what + " in a step", due, cutter.variable(0, 0));
    }

    /** "It wraps as ints do", counted here in longs of which the lowest 32 bits are taken. */
    private static void itWrapsAsIntsDo() {
        for (int a : VALUES) {
            for (int b : VALUES) {
                dueValue("x+y", a, b, (int) ((long) a + b));
                dueValue("x-y", a, b, (int) ((long) a - b));
                dueValue("x*y", a, b, (int) ((long) a * b));
            }
        }
        dueValue("x+1", MAX, 0, MIN);
        dueValue("x+0", MAX, 0, MAX);
        dueValue("x-1", MIN, 0, MAX);
        dueValue("x-0", MIN, 0, MIN);
        dueValue("0-x", MIN, 0, MIN);
        dueValue("0-x", MIN + 1, 0, MAX);
        dueValue("x*2", 1 << 30, 0, MIN);
        dueValue("x*2", (1 << 30) - 1, 0, MAX - 1);
        dueValue("x/y", MIN, -1, MIN);
        dueValue("x/y", MIN + 1, -1, MAX);
        dueValue("x%y", MIN, -1, 0);
    }

    /** "a / 0 and a % 0 are 0": whatever a is, and however the 0 is written. */
    private static void divisionByZeroIsZero() {
        for (int a : VALUES) {
            for (String zero : new String[] {"y", "z", "0", "00", "000"}) {
                dueValue("x/" + zero, a, 0, 0);
                dueValue("x%" + zero, a, 0, 0);
            }
            dueValue("x/1", a, 0, a);
            dueValue("x%1", a, 0, 0);
            dueValue("x/y", a, -1, (int) -(long) a);
            dueValue("x%y", a, -1, 0);
        }
        dueValue("999/0", 0, 0, 0);
        dueValue("999%0", 0, 0, 0);
        dueValue("0/0", 0, 0, 0);
        dueValue("0%0", 0, 0, 0);
    }

    private static void divisionGoesTowardsZero() {
        int[][] due = {{7, 2, 3, 1}, {-7, 2, -3, -1}, {7, -2, -3, 1}, {-7, -2, 3, -1}, {1, 2, 0, 1}, {-1, 2, 0, -1},
            {2, 2, 1, 0}, {MAX, MIN, 0, MAX}, {MIN, MAX, -1, -1}, {MIN, MIN, 1, 0}, {0, 5, 0, 0}};
        for (int[] d : due) {
            dueValue("x/y", d[0], d[1], d[2]);
            dueValue("x%y", d[0], d[1], d[3]);
        }
    }

    /** "a < b and a = b (are equal) are 1 or 0". */
    private static void lessAndEqual() {
        for (int a : VALUES) {
            for (int b : VALUES) {
                dueValue("x<y", a, b, (long) a - b < 0 ? 1 : 0);
                dueValue("x=y", a, b, (long) a - b == 0 ? 1 : 0);
            }
        }
        dueValue("x<999", 998, 0, 1);
        dueValue("x<999", 999, 0, 0);
        dueValue("x<999", 1000, 0, 0);
        dueValue("x=999", 998, 0, 0);
        dueValue("x=999", 999, 0, 1);
        dueValue("x=999", 1000, 0, 0);
        dueValue("007=7", 0, 0, 1);
    }

    /** "T being a variable (of P) or one to three figures": on either side, and alone. */
    private static void eachFormOfTerms() {
        for (int a : VALUES) {
            dueValue("x", a, 3, a);
            dueValue("y", 3, a, a);
            dueValue("x-999", a, 0, (int) (a - 999L));
            dueValue("999-x", a, 0, (int) (999L - a));
            dueValue("x-x", a, 0, 0);
        }
        dueValue("0", 5, 5, 0);
        dueValue("9", 5, 5, 9);
        dueValue("10", 5, 5, 10);
        dueValue("99", 5, 5, 99);
        dueValue("100", 5, 5, 100);
        dueValue("999", 5, 5, 999);
        dueValue("010", 5, 5, 10);
        dueValue("999*999", 5, 5, 998001);
        dueValue("000-999", 5, 5, -999);
    }

    /** "R is done if E is not 0, S otherwise": not only if E is 1. */
    private static void notZeroIsChosen() {
        for (int a : VALUES) {
            PlayCutter x = Check.loaded("A?x{Aw:1;}{Aw:2;}", false);
            x.input(0, 1, a);
            Check.due("both are done", 2, x.whole(2));
            Check.due("chosen by " + a + " in whole()", a != 0 ? 1 : 2, x.wanted(0, 0));
            Check.dueSteps(x, "AAA", "DDE");
            Check.due("chosen by " + a + " in steps", a != 0 ? 1 : 2, x.variable(0, 0));
        }
    }

    /** "while it is not 0, R is done"; the led are sent "the label 1 if E was not 0, 0 if it was". */
    private static void notZeroGoesRound() {
        for (int a : VALUES) {
            PlayCutter x = Check.loaded("A@x{Ax:0;By:y+1;}", false);
            x.input(0, 1, a);
            Check.due("asked, or all and asked again", a != 0 ? 4 : 1, x.whole(2000));
            Check.due("done by " + a + " in whole()", a != 0 ? 1 : 0, x.wanted(1, 2));
            Check.dueSteps(x, "AA", "DD");
            Check.due("B is sent by " + a, a != 0 ? "[!1]" : "[!0]", Check.queue(x, 0, 1));
            Check.due("A goes on by " + a, a != 0 ? 1 : 0, x.at(0));
            x.run(0, 300);
            Check.due("done by " + a + " in steps", a != 0 ? 1 : 0, x.variable(1, 2));
        }
    }

    /** "a variable (of P)": for each statement, not of Q and not of the party before it. */
    private static void theVariablesAreThoseOfTheParty() {
        for (int p = 0; p < 6; p++) {
            int q = (p + 1) % 6;
            String letters = "" + (char) ('A' + p);
            PlayCutter x = Check.loaded(letters + "x>" + (char) ('A' + q) + "w;" + letters + "y:x*2;", false);
            for (int other = 0; other < 6; other++) {
                x.input(other, 1, 10 + other);
            }
            x.whole(2);
            Check.due("sent in whole()", 10 + p, x.wanted(q, 0));
            Check.due("set in whole()", 20 + 2 * p, x.wanted(p, 2));
            x.run(0, 18);
            Check.due("sent in steps", 10 + p, x.variable(q, 0));
            Check.due("set in steps", 20 + 2 * p, x.variable(p, 2));
        }
    }
}
