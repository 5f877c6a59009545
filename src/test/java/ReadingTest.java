/** Promises 1 to 5: a new object, type, load, fault and who. */
public final class ReadingTest {

    private static final String UNAWARE = "A?w{Bx:1;Cy:2;}{Bx:1;Cy:3;}";

    public static void main(String[] args) {
        promise1NewObject();
        promise2Type();
        promise2TypeUpTo200();
        promise3Load();
        promise3LoadBeginsAnew();
        promise3LoadThatThrows();
        promise3PutIn();
        promise3MoreThan80();
        promise4FaultOfText();
        promise4FaultAtLimits();
        promise4FaultOfChoice();
        promise5Who();
        Check.end();
    }

    private static void promise1NewObject() {
        PlayCutter x = new PlayCutter();
        Check.due("new: fault", PlayCutter.NONE, x.fault());
        Check.due("new: who", PlayCutter.NONE, x.who());
        for (int p = 0; p < 6; p++) {
            for (int v = 0; v < 4; v++) {
                Check.due("new: variable", 0, x.variable(p, v));
                Check.due("new: wanted", 0, x.wanted(p, v));
            }
            for (int q = 0; q < 6; q++) {
                if (q != p) {
                    Check.due("new: queue", 0, x.queue(p, q));
                }
            }
        }
        Check.dueThrow("new: length", Check.STATE, () -> x.length(0));
        Check.dueThrow("new: letter", Check.STATE, () -> x.letter(0, 0));
        Check.dueThrow("new: input", Check.STATE, () -> x.input(0, 0, 1));
        Check.dueThrow("new: room", Check.STATE, () -> x.room(1));
        Check.dueThrow("new: reset", Check.STATE, x::reset);
        Check.dueThrow("new: step", Check.STATE, () -> x.step(0));
        Check.dueThrow("new: run", Check.STATE, () -> x.run(0, 0));
        Check.dueThrow("new: at", Check.STATE, () -> x.at(0));
        Check.dueThrow("new: whole", Check.STATE, () -> x.whole(1));
        Check.dueThrow("new: message", Check.ELEMENT, () -> x.message(0, 1, 0));
        Check.dueThrow("new: load", Check.ARGUMENT, () -> x.load(true));
        Check.due("new: fault of the empty text", 0, x.fault());
    }

    private static void promise2Type() {
        PlayCutter x = new PlayCutter();
        Check.due("type nothing", true, x.type(0));
        Check.due("type behind a 0", true, x.type(Check.packed("Aw:1") | 0x0120L << 40));
        Check.due("type !", true, new PlayCutter().type('!'));
        Check.due("type ~", true, new PlayCutter().type('~'));
        Check.due("type a blank", false, x.type(' '));
        Check.due("type 127", false, x.type(127));
        Check.due("type 255", false, x.type(-1));
        Check.due("type 128 in the eighth", false, x.type(Check.packed("Aw:1;Bw") | 128L << 56));
        Check.due("type a blank behind a letter", false, x.type(Check.packed("; ")));
        Check.due("type ;", true, x.type(Check.packed(";")));
        Check.due("type eight", true, x.type(Check.packed("Bw+1>Cx;")));
        Check.due("load of what was typed", 0, x.load(false));
        Check.due("what was typed, A", "w:1;", Check.part(x, 0));
        Check.due("what was typed, B", "w+1>C;", Check.part(x, 1));
    }

    private static void promise2TypeUpTo200() {
        PlayCutter x = new PlayCutter();
        Check.type(x, "Aw:1;".repeat(39));
        Check.due("type 201 letters", false, x.type(Check.packed("Bx:12;")));
        Check.due("type 200 letters", true, x.type(Check.packed("Bx:2;")));
        Check.due("type one more", false, x.type(';'));
        Check.due("type none more", true, x.type(0));
        Check.due("load of 200 letters", 0, x.load(false));
        Check.due("length of 39 sets", 39 * 4, x.length(0));
        Check.due("the 40th", "x:2;", Check.part(x, 1));
        Check.due("the text is empty", true, x.type('A'));
    }

    private static void promise3Load() {
        PlayCutter x = Check.loaded("Aw:5;Aw>Bx;", false);
        Check.due("load: A", "w:5;w>B;", Check.part(x, 0));
        Check.due("load: B", "A>x;", Check.part(x, 1));
        Check.due("load: C", "", Check.part(x, 2));
        Check.dueThrow("the text is empty behind load", Check.ARGUMENT, () -> x.load(false));
        Check.due("fault of the empty text", 0, x.fault());
        Check.due("the play stays", "w:5;w>B;", Check.part(x, 0));
    }

    private static void promise3LoadBeginsAnew() {
        PlayCutter x = Check.loaded("Aw>Bx;Cy:7;Aw>Bx;", false);
        x.input(0, 0, 9);
        x.room(1);
        x.run(0, 30);
        x.step(0);
        x.whole(2);
        Check.type(x, "A1>Bx;A2>Bx;A@z{Bw:1;}");
        Check.due("load", 0, x.load(true));
        for (int p = 0; p < 6; p++) {
            for (int v = 0; v < 4; v++) {
                Check.due("variable behind load", 0, x.variable(p, v));
                Check.due("wanted behind load", 0, x.wanted(p, v));
                Check.due("input behind load", 0, x.input(p, v, 0));
            }
        }
        Check.due("at behind load", 2, x.at(0));
        Check.due("step", PlayCutter.DID, x.step(0));
        Check.due("room stays 1", PlayCutter.WAITS, x.step(0));
        Check.due("queue", 1, x.queue(0, 1));
        Check.type(x, "Aw>Bx;");
        Check.due("load", 0, x.load(true));
        Check.due("queue behind load", 0, x.queue(0, 1));
    }

    private static void promise3LoadThatThrows() {
        PlayCutter x = Check.loaded("A@w{A7>Bx;Aw:w-1;}", false);
        x.input(0, 0, 2);
        x.whole(3);
        x.run(0, 14);
        String before = Check.state(x);
        Check.type(x, "Aw:1");
        Check.dueThrow("load of no play", Check.ARGUMENT, () -> x.load(true));
        Check.due("fault is new", 4, x.fault());
        Check.due("all else stays", before.replace("fault -1 who -1", "fault 4 who -1"), Check.state(x));
        Check.type(x, UNAWARE);
        Check.dueThrow("load with C unaware", Check.STATE, () -> x.load(false));
        Check.due("all else stays", before.replace("fault -1 who -1", "fault 0 who 2"), Check.state(x));
        Check.dueThrow("the text is empty", Check.ARGUMENT, () -> x.load(true));
        Check.due("fault is new", 0, x.fault());
        Check.due("who is new", PlayCutter.NONE, x.who());
        Check.dueThrow("a step was made", Check.STATE, () -> x.input(0, 0, 1));
    }

    private static void promise3PutIn() {
        PlayCutter x = new PlayCutter();
        Check.type(x, UNAWARE);
        Check.due("two put in", 2, x.load(true));
        Check.due("fault", PlayCutter.NONE, x.fault());
        Check.type(x, "A?w{Cx:1;Fx:1;By:2;}{By:2;}");
        Check.due("four put in", 4, x.load(true));
        Check.due("A", "?w{!1>C;!1>F;}{!0>C;!0>F;}", Check.part(x, 0));
        Check.due("B", "y:2;", Check.part(x, 1));
        Check.due("C", "A0{}1{x:1;}", Check.part(x, 2));
        Check.due("F", "A0{}1{x:1;}", Check.part(x, 5));
        Check.type(x, "A?w{B?x{Cy:1;}{}}{Cy:1;}");
        Check.due("in both choices", 6, x.load(true));
        Check.due("A", "?w{!1>B;!1>C;}{!0>B;!0>C;}", Check.part(x, 0));
        Check.due("B", "A0{}1{?x{!1>C;}{!0>C;}}", Check.part(x, 1));
        Check.due("C", "A0{y:1;}1{B0{}1{y:1;}}", Check.part(x, 2));
        Check.type(x, "A?w{A!1>B;Bx:1;}{A!2>B;Bx:2;}");
        Check.due("none is put in where none is wanted", 0, x.load(true));
    }

    private static void promise3MoreThan80() {
        String five = "A?w{Bw:1;Cw:1;Dw:1;Ew:1;Fw:1;}{}";
        PlayCutter x = new PlayCutter();
        Check.type(x, five.repeat(5));
        Check.due("30 and 50 are 80", 50, x.load(true));
        Check.due("length with 50 put in", 5 * 56, x.length(0));
        Check.type(x, five.repeat(5) + "Aw:1;");
        Check.dueThrow("31 and 50 are 81", Check.UNSUPPORTED, () -> x.load(true));
        Check.due("fault: the last choice", 4 * five.length(), x.fault());
        Check.due("who", PlayCutter.NONE, x.who());
        Check.due("the play stays", 5 * 56, x.length(0));
        Check.type(x, five.repeat(6));
        Check.dueThrow("36 and 60 are 96", Check.UNSUPPORTED, () -> x.load(true));
        Check.due("fault: the fifth choice", 4 * five.length(), x.fault());
        Check.type(x, five.repeat(6));
        Check.dueThrow("labels are not to be put in", Check.STATE, () -> x.load(false));
        Check.due("fault: the first choice", 0, x.fault());
        Check.due("who", 1, x.who());
    }

    private static void promise4FaultOfText() {
        String[] plays = {"Aw:1;", "Fz:999;", "Aw:x;", "Aw:x+y;", "Aw:12*345;", "Aw:000%z;", "Aw:w/0;", "Aw:1<2;",
            "Aw:1=2;", "Aw:w-1;", "Aw>Bx;", "A5>Bx;", "Aw+1>Bx;", "A1<w>Fz;", "B!0>A;", "B!9>F;", "A?w{}{}",
            "A?w=1{Bx:1;}{C!1>B;}", "A@w{}", "A@100-w{A@w{}}", "Aw:1;Bw:1;A?w{}{}C!1>D;"};
        for (String play : plays) {
            Check.dueFault(PlayCutter.NONE, play);
            for (int i = 1; i < play.length(); i++) {
                if ("AFB".indexOf(play.charAt(i)) < 0) {
                    Check.dueFault(i, play.substring(0, i) + "#");
                }
            }
        }
        Check.dueFault(0, "");
        Check.dueFault(0, "a");
        Check.dueFault(0, "G");
        Check.dueFault(0, "@");
        Check.dueFault(0, "{");
        Check.dueFault(1, "AA");
        Check.dueFault(1, "A;");
        Check.dueFault(2, "Aw;");
        Check.dueFault(2, "A1:2;");
        Check.dueFault(3, "Aw::1;");
        Check.dueFault(3, "Aw:+1;");
        Check.dueFault(3, "Aw:-1;");
        Check.dueFault(4, "Aw:xy;");
        Check.dueFault(4, "Aw:x>1;");
        Check.dueFault(6, "Aw:x+1+1;");
        Check.dueFault(6, "Aw:1234;");
        Check.dueFault(8, "Aw:1+1234;");
        Check.dueFault(3, "A1>A");
        Check.dueFault(3, "A1>G");
        Check.dueFault(4, "A1>B;");
        Check.dueFault(4, "A1>Bv;");
        Check.dueFault(4, "A1>B{;");
        Check.dueFault(5, "A1>Bw:");
        Check.dueFault(2, "A!");
        Check.dueFault(2, "A!w>B;");
        Check.dueFault(2, "A!>B;");
        Check.dueFault(2, "A!:>B;");
        Check.dueFault(2, "A!/>B;");
        Check.dueFault(3, "A!12>B;");
        Check.dueFault(4, "A!1>A;");
        Check.dueFault(5, "A!1>Bw;");
        Check.dueFault(2, "A?{}{}");
        Check.dueFault(3, "A?w;");
        Check.dueFault(5, "A?w{}");
        Check.dueFault(5, "A?w{}Aw:1;");
        Check.dueFault(7, "A?w{}{}{}");
        Check.dueFault(5, "A@w{}{}");
        Check.dueFault(9, "A@w{Aw:1;");
        Check.dueFault(4, "A@w{G");
        Check.dueFault(5, "Aw:1;}");
    }

    private static void promise4FaultAtLimits() {
        Check.dueFault(PlayCutter.NONE, "Aw:1;".repeat(40));
        Check.dueFault(200, "Aw:11;".repeat(3) + "Aw:1;".repeat(36) + "Aw");
        String begun = "A@w{".repeat(6) + "Aw:1;".repeat(34);
        Check.dueFault(194, begun);
        Check.dueFault(194, begun + "Aw:1;");
        Check.dueFault(195, begun + "}#");
        Check.dueFault(PlayCutter.NONE, begun + "}}}}}}");
        String whole = "A@w{".repeat(6) + "Aw:1;".repeat(33) + "}".repeat(6);
        Check.dueFault(PlayCutter.NONE, whole);
        Check.dueFault(PlayCutter.NONE, whole + "Aw:1;");
        String six = "A?w{".repeat(3) + "A@w{".repeat(3);
        Check.dueFault(24, six);
        Check.dueFault(25, six + "A");
        Check.dueFault(25, six + "A?w{}{}");
        Check.dueFault(25, six + "A@w{}");
        Check.dueFault(26, six + "Aw");
        Check.dueFault(PlayCutter.NONE, six + "Aw:1;}}}}{}}{}}{}");
        String second = "A?w{}{".repeat(6);
        Check.dueFault(PlayCutter.NONE, second + "}".repeat(6));
        Check.dueFault(37, second + "F?");
        Check.dueFault(39, second + "}A@#");
    }

    private static void dueUnaware(int fault, int who, String text) {
        PlayCutter x = new PlayCutter();
        Check.type(x, text);
        Check.dueThrow("load of " + text, Check.STATE, () -> x.load(false));
        Check.due("fault of " + text, fault, x.fault());
        Check.due("who of " + text, who, x.who());
        Check.type(x, "Aw:1;");
        x.load(false);
        Check.due("fault behind a load that did not throw", PlayCutter.NONE, x.fault());
        Check.due("who behind a load that did not throw", PlayCutter.NONE, x.who());
    }

    private static void promise4FaultOfChoice() {
        String choice = "A?w{Bx:1;}{}";
        dueUnaware(5, 1, "Aw:1;" + choice);
        dueUnaware(4, 1, "C@w{" + choice + choice + "}");
        dueUnaware(4, 0, "B?w{C?x{Ay:1;}{}}{}");
        dueUnaware(12, 1, "A?w{A!1>B;}{A?x{Bw:1;}{}}");
        dueUnaware(0, 1, "A?w{C?x{}{}Bx:1;}{C?x{}{}}" + choice);
        dueUnaware(7, 1, "A?w{}{}" + choice);
    }

    private static void promise5Who() {
        dueUnaware(0, 2, UNAWARE);
        dueUnaware(0, 0, "F?w{Ex:1;Ax:1;}{}");
        dueUnaware(0, 5, "E?w{Fx:1;}{Fx:2;}");
        dueUnaware(0, 1, "A?w{B1>Cx;}{C1>Bx;}");
    }
}
