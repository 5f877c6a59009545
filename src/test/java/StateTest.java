/** Promises 14 to 17: variable, queue, message and label. */
public final class StateTest {

    private static final int[] OUTSIDE = {-1, 6, Integer.MIN_VALUE, Integer.MAX_VALUE};

    public static void main(String[] args) {
        promise14Variable();
        promise15Queue();
        promise16And17Messages();
        wrongCalls(new PlayCutter());
        wrongCalls(Check.loaded("A1>Bx;", false));
        Check.end();
    }

    private static void promise14Variable() {
        PlayCutter x = Check.loaded("Aw:1;Bx:2;Cy:3;Dz:4;Ew:5;Fz:6;A7>Fw;", false);
        x.run(0, 12);
        int[][] due = {{1, 0, 0, 0}, {0, 2, 0, 0}, {0, 0, 3, 0}, {0, 0, 0, 4}, {5, 0, 0, 0}, {7, 0, 0, 6}};
        for (int p = 0; p < 6; p++) {
            for (int v = 0; v < 4; v++) {
                Check.due("variable " + p + " " + v, due[p][v], x.variable(p, v));
            }
        }
    }

    private static void promise15Queue() {
        PlayCutter x = Check.loaded("A1>Bx;A2>Cx;A3>Cx;F1>Ax;F2>Ax;F!3>A;B4>Ax;", false);
        x.run(0, 6);
        x.step(5);
        x.step(5);
        for (int from = 0; from < 6; from++) {
            for (int to = 0; to < 6; to++) {
                if (from != to) {
                    Check.due("queue " + from + " " + to, from == 5 && to == 0 ? 3 : 0, x.queue(from, to));
                }
            }
        }
        x.run(0, 6);
        Check.due("A has sent C one", 0, x.queue(0, 2));
        Check.due("B has sent A one", 1, x.queue(1, 0));
    }

    private static void promise16And17Messages() {
        PlayCutter x = Check.loaded("Aw>Bx;A!9>B;A999>Bx;A!0>B;Ax>Bx;", false);
        x.input(0, 0, Integer.MIN_VALUE);
        x.input(0, 1, 9);
        for (int i = 0; i < 4; i++) {
            x.step(0);
        }
        Check.due("messages", "[ -2147483648!9 999!0]", Check.queue(x, 0, 1));
        x.step(1);
        x.step(0);
        Check.due("first in, first out", "[!9 999!0 9]", Check.queue(x, 0, 1));
        Check.due("the value 9 is no label", false, x.label(0, 1, 3));
        Check.due("the label 9 is one", true, x.label(0, 1, 0));
        for (int i : new int[] {-1, 4, 8, Integer.MIN_VALUE, Integer.MAX_VALUE}) {
            Check.dueThrow("message " + i, Check.ELEMENT, () -> x.message(0, 1, i));
            Check.dueThrow("label " + i, Check.ELEMENT, () -> x.label(0, 1, i));
        }
        Check.dueThrow("message of the queue back", Check.ELEMENT, () -> x.message(1, 0, 0));
        PlayCutter many = Check.loaded("A@w{Aw>Bx;Aw:w-1;}", false);
        many.room(8);
        many.input(0, 0, 30);
        many.run(0, 300);
        Check.due("more than a queue's room was sent", true, many.variable(0, 0) < 30 - 8);
        Check.due("but no more are in it", true, many.queue(0, 1) <= 8);
        Check.due("labels of rounds and values by turns", true, alternates(many));
    }

    private static boolean alternates(PlayCutter x) {
        for (int i = 1; i < x.queue(0, 1); i++) {
            if (x.label(0, 1, i) == x.label(0, 1, i - 1)) {
                return false;
            }
        }
        return true;
    }

    private static void wrongCalls(PlayCutter x) {
        for (int p : OUTSIDE) {
            Check.dueThrow("variable " + p + " 0", Check.BOUNDS, () -> x.variable(p, 0));
            Check.dueThrow("wanted " + p + " 0", Check.BOUNDS, () -> x.wanted(p, 0));
            Check.dueThrow("queue " + p + " 0", Check.BOUNDS, () -> x.queue(p, 0));
            Check.dueThrow("queue 0 " + p, Check.BOUNDS, () -> x.queue(0, p));
            Check.dueThrow("message " + p + " 0", Check.BOUNDS, () -> x.message(p, 0, -1));
            Check.dueThrow("message 0 " + p, Check.BOUNDS, () -> x.message(0, p, 0));
            Check.dueThrow("label " + p + " 0", Check.BOUNDS, () -> x.label(p, 0, -1));
            Check.dueThrow("label 0 " + p, Check.BOUNDS, () -> x.label(0, p, 0));
        }
        for (int v : new int[] {-1, 4, Integer.MIN_VALUE, Integer.MAX_VALUE}) {
            Check.dueThrow("variable 0 " + v, Check.BOUNDS, () -> x.variable(0, v));
            Check.dueThrow("wanted 5 " + v, Check.BOUNDS, () -> x.wanted(5, v));
        }
        for (int p = 0; p < 6; p++) {
            int same = p;
            Check.dueThrow("queue to itself", Check.BOUNDS, () -> x.queue(same, same));
            Check.dueThrow("message to itself", Check.BOUNDS, () -> x.message(same, same, 0));
            Check.dueThrow("label to itself", Check.BOUNDS, () -> x.label(same, same, 0));
        }
        Check.dueThrow("message of an empty queue", Check.ELEMENT, () -> x.message(0, 1, 0));
        Check.dueThrow("label of an empty queue", Check.ELEMENT, () -> x.label(0, 1, 0));
    }
}
