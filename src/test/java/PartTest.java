/** Promises 6 and 7: the text of a part, which shows how a play is cut. */
public final class PartTest {

    private static final int[] NO_PARTIES = {-1, 6, Integer.MIN_VALUE, Integer.MAX_VALUE};

    public static void main(String[] args) {
        eachAction();
        hearTakesAllBehind();
        roundsAndTheirLed();
        joins();
        noJoins();
        deepPart();
        longPart();
        wrongCalls();
        Check.end();
    }

    /** Asks for the parts of A, B, C and so on, as many as are told; the others are empty. */
    private static void dueParts(String play, String... parts) {
        PlayCutter x = Check.loaded(play, false);
        for (int p = 0; p < 6; p++) {
            String part = p < parts.length ? parts[p] : "";
            Check.due("length " + p + " of " + play, part.length(), x.length(p));
            Check.due("part " + p + " of " + play, part, Check.part(x, p));
        }
    }

    private static void eachAction() {
        dueParts("Aw:1;", "w:1;");
        dueParts("Fz:x%012;", "", "", "", "", "", "z:x%012;");
        dueParts("Aw+1>Bz;", "w+1>B;", "A>z;");
        dueParts("A!7>B;", "!7>B;", "A7{}");
        dueParts("A?w<9{}{}", "?w<9{}{}");
        dueParts("A@w{}", "@w{}");
        dueParts("A@w{Bx:1;}", "@wB{}", "A@{x:1;}");
    }

    private static void hearTakesAllBehind() {
        dueParts("A!7>B;Bw:1;A!8>B;Bx:2;C!1>A;Ay:3;", "!7>B;!8>B;C1{y:3;}", "A7{w:1;A8{x:2;}}", "!1>A;");
        dueParts("A@w{A!7>B;Bw:1;}Bx:2;", "@wB{!7>B;}", "A@{A7{w:1;}}x:2;");
        dueParts("A?w{A!1>B;}{A!0>B;}Bx:2;", "?w{!1>B;}{!0>B;}", "A0{}1{}x:2;");
        dueParts("A!1>B;A?w{A!1>B;}{A!0>B;}Bx:2;", "!1>B;?w{!1>B;}{!0>B;}", "A1{A0{}1{}x:2;}");
    }

    private static void roundsAndTheirLed() {
        dueParts("D@w{A@x{F!1>E;}B1>Cy;}", "D@{@xEF{}}", "D@{1>C;}", "D@{B>y;}", "@wABCEF{}", "D@{A@{F1{}}}",
                "D@{A@{!1>E;}}");
        dueParts("A@w{C?x{C!1>B;}{C!2>B;}}", "@wBC{}", "A@{C1{}2{}}", "A@{?x{!1>B;}{!2>B;}}");
        dueParts("A@w{A@x{}}", "@w{@x{}}");
    }

    private static void joins() {
        dueParts("A?w{Bx:1;}{Bx:1;}", "?w{}{}", "x:1;");
        dueParts("A?w{Bx:1;C1>By;}{Bx:1;C1>By;}", "?w{}{}", "x:1;C>y;", "1>B;");
        dueParts("A?w{A!3>B;B?x{B!1>C;}{B!2>C;}}{A!1>B;B?y{B!3>C;}{B!2>C;}}", "?w{!3>B;}{!1>B;}",
                "A1{?y{!3>C;}{!2>C;}}3{?x{!1>C;}{!2>C;}}", "B1{}2{}3{}");
        dueParts("A?w{B@x{Cy:1;}}{B@x{Cy:1;}}", "?w{}{}", "@xC{}", "B@{y:1;}");
        dueParts("A?w{C@x{A!1>B;}}{C@x{A!2>B;}}", "?w{C@{!1>B;}}{C@{!2>B;}}", "C@{A1{}2{}}", "@xAB{}");
        dueParts("A?w{A!1>B;Bx:1;}{A!1>B;Bx:1;}", "?w{!1>B;}{!1>B;}", "A1{x:1;}");
        dueParts("A?w{B?x{By:1;}{}}{B?x{By:1;}{}}", "?w{}{}", "?x{y:1;}{}");
    }

    private static void dueNone(int who, String text) {
        PlayCutter x = new PlayCutter();
        Check.type(x, text);
        Check.dueThrow("load of " + text, Check.STATE, () -> x.load(false));
        Check.due("who of " + text, who, x.who());
    }

    private static void noJoins() {
        dueNone(1, "A?w{Bx:1;}{}");
        dueNone(1, "A?w{}{Bx:1;}");
        dueNone(1, "A?w{Bx:1;By:1;}{Bx:1;}");
        dueNone(1, "A?w{Bx:1;}{By:1;}");
        dueNone(1, "A?w{Bx:1;}{Bx:01;}");
        dueNone(1, "A?w{Bx:y+z;}{Bx:z+y;}");
        dueNone(1, "A?w{Bx>Ay;}{By>Ay;}");
        dueNone(1, "A?w{B1>Cx;}{B1>Dx;}");
        dueNone(1, "A?w{B1>Ax;}{B!1>A;}");
        dueNone(1, "A?w{B!1>A;}{B!2>A;}");
        dueNone(1, "A?w{A1>Bx;}{A1>By;}");
        dueNone(1, "A?w{A1>Bx;}{A!1>B;}");
        dueNone(1, "A?w{C1>Bx;}{D1>Bx;}");
        dueNone(1, "A?w{C!1>B;}{D!1>B;}");
        dueNone(1, "A?w{A!1>B;Bx:1;}{A!1>B;}");
        dueNone(1, "A?w{A!1>B;Bx:1;}{A?y{A!1>B;}{A!1>B;}Bx:1;}");
        dueNone(1, "A?w{A!5>B;Bx:1;}{A?y{A!1>B;}{A!1>B;}Bx:1;}");
        dueNone(1, "A?w{B?x{}{}}{B@x{}}");
        dueNone(1, "A?w{B?x{}{}}{B?y{}{}}");
        dueNone(1, "A?w{B?x{By:1;}{}}{B?x{}{By:1;}}");
        dueNone(1, "A?w{B@x{}}{B@y{}}");
        dueNone(1, "A?w{B@x{}}{B@x{By:1;}}");
        dueNone(1, "A?w{B@x{A!1>C;}}{B@x{A!2>D;}}");
        dueNone(1, "A?w{A@x{A1>By;}}{A1>By;}");
        dueNone(1, "A?w{C@x{Bx:1;}}{D@x{Bx:1;}}");
    }

    /** As deep as actions stand in one another in 200 letters. */
    private static void deepPart() {
        String play = "A@w{".repeat(6) + "A!1>B;".repeat(28) + "}".repeat(6);
        PlayCutter x = Check.loaded(play, false);
        Check.due("deep part", "A@{".repeat(6) + "A1{".repeat(28) + "}".repeat(34), Check.part(x, 1));
        PlayCutter y = Check.loaded(play, false);
        y.input(0, 0, 1);
        // Each round is asked and told, and A tells 28 labels; B hears them all and follows again.
        Check.due("all the way in and back", 6 * 2 + 28 + 6 + 28, upTo(y, 6 * 2 + 28, 6 + 28));
        Check.due("B follows again", 8, y.at(1));
        String choice = "A?w{" + "A!1>B;".repeat(15) + "}{" + "A!1>B;".repeat(14) + "A!2>B;}";
        Check.due("deep join", "A1{".repeat(14) + "A1{}2{}" + "}".repeat(14),
                Check.part(Check.loaded(choice, false), 1));
    }

    /** How many steps A and B make by turns, each at most so many. */
    private static int upTo(PlayCutter x, int mostOfA, int mostOfB) {
        int a = 0;
        int b = 0;
        for (int i = 0; i < 100; i++) {
            a += a < mostOfA ? x.step(0) : 0;
            b += b < mostOfB ? x.step(1) : 0;
        }
        return a + b;
    }

    /** Five rounds, all led, and many labels put in make a part's text much longer than the play. */
    private static void longPart() {
        String inner = "A?w{Bw:1;Cw:1;Dw:1;Ew:1;Fw:1;}{}".repeat(4);
        PlayCutter x = Check.loaded("A@w{".repeat(5) + inner + "}".repeat(5), true);
        String told = "?w{!1>B;!1>C;!1>D;!1>E;!1>F;}{!0>B;!0>C;!0>D;!0>E;!0>F;}".repeat(4);
        Check.due("long part", "@wBCDEF{".repeat(5) + told + "}".repeat(5), Check.part(x, 0));
    }

    private static void wrongCalls() {
        PlayCutter none = new PlayCutter();
        PlayCutter x = Check.loaded("Aw:1;", false);
        for (int p : NO_PARTIES) {
            Check.dueThrow("length of " + p, Check.BOUNDS, () -> x.length(p));
            Check.dueThrow("length of " + p + " without a play", Check.BOUNDS, () -> none.length(p));
            Check.dueThrow("letter of " + p, Check.BOUNDS, () -> x.letter(p, 0));
            Check.dueThrow("letter of " + p + " without a play", Check.BOUNDS, () -> none.letter(p, -1));
        }
        Check.dueThrow("length without a play", Check.STATE, () -> none.length(5));
        Check.dueThrow("letter without a play", Check.STATE, () -> none.letter(5, -1));
        Check.dueThrow("letter -1", Check.ELEMENT, () -> x.letter(0, -1));
        Check.dueThrow("letter 4 of 4", Check.ELEMENT, () -> x.letter(0, 4));
        Check.dueThrow("letter 0 of none", Check.ELEMENT, () -> x.letter(5, 0));
        Check.dueThrow("letter of a great number", Check.ELEMENT, () -> x.letter(0, Integer.MAX_VALUE));
        Check.due("the last letter", ';', x.letter(0, 3));
    }
}
