/** The boundaries of reading a play: the sentences of "Terms" on its text, and promises 1 and 2. */
public final class ReadingEdgeTest {

    private static final int NONE = PlayCutter.NONE;
    private static final String PARTIES = "ABCDEF";
    private static final String VARIABLES = "wxyz";
    private static final String FIGURES = "0123456789";
    private static final String OPERATORS = "+-*/%<=";
    private static final String ROUND = "A@w{";
    private static final String SET = "Aw:1;";

    public static void main(String[] args) {
        partiesAreAToF();
        theOtherPartyIsAnotherOne();
        variablesAreWToZ();
        labelsAreOneFigure();
        operatorsAreSeven();
        numbersHaveOneToThreeFigures();
        anExpressionHasOneOrTwoTerms();
        aPlayHasOneToFortyStatements();
        theFortyCountThoseInBlocks();
        atMostSixBlocksInOneAnother();
        aBlockHasAnyNumberOfStatements();
        nothingStandsBetweenStatements();
        theFaultOfABeginning();
        theFaultOfALongPlaysBeginning();
        aNewObjectHasAnEmptyText();
        typeTakes33To126();
        typeTakesUpToTheFirstZero();
        typeTakesTwoHundred();
        typeThatIsRefusedPutsNothing();
        Check.end();
    }

    private static boolean isIn(String letters, char c) {
        return letters.indexOf(c) >= 0;
    }

    /** "PARTIES are A .. F, with the numbers 0 .. 5": the letters before and behind them are none. */
    private static void partiesAreAToF() {
        for (char c = 33; c <= 126; c++) {
            Check.dueFault(isIn(PARTIES, c) ? NONE : 0, c + "w:1;");
            Check.dueFault(isIn(PARTIES, c) ? NONE : 5, SET + c + "w:1;");
        }
        for (int p = 0; p < 6; p++) {
            PlayCutter x = Check.loaded(PARTIES.charAt(p) + "w:1;", false);
            for (int q = 0; q < 6; q++) {
                Check.due("part " + q + " of a set of party " + p, q == p ? "w:1;" : "", Check.part(x, q));
            }
        }
    }

    /** "Q another one than P". */
    private static void theOtherPartyIsAnotherOne() {
        for (char p : PARTIES.toCharArray()) {
            for (char c = 33; c <= 126; c++) {
                boolean isOther = isIn(PARTIES, c) && c != p;
                Check.dueFault(isOther ? NONE : 3, p + "1>" + c + "w;");
                Check.dueFault(isOther ? NONE : 4, p + "!1>" + c + ";");
            }
        }
    }

    /** "four VARIABLES w, x, y, z, with the numbers 0 .. 3". */
    private static void variablesAreWToZ() {
        for (char c = 33; c <= 126; c++) {
            boolean isVariable = isIn(VARIABLES, c);
            boolean goesOn = isIn(FIGURES, c) || isIn("!?@", c);
            Check.dueFault(isVariable ? NONE : goesOn ? 2 : 1, "A" + c + ":1;");
            Check.dueFault(isVariable ? NONE : 4, "A1>B" + c + ";");
            boolean isTerm = isVariable || isIn(FIGURES, c);
            Check.dueFault(isTerm ? NONE : 3, "Aw:" + c + ";");
            Check.dueFault(isTerm ? NONE : 5, "Aw:1+" + c + ";");
            Check.dueFault(isTerm ? NONE : 2, "A?" + c + "{}{}");
            Check.dueFault(isTerm ? NONE : 2, "A@" + c + "{}");
        }
        PlayCutter x = Check.loaded("Aw:1;Ax:2;Ay:3;Az:4;Fw:w+5;Fx:w+1;Fy:x+1;Fz:y+1;", false);
        x.run(0, 24);
        for (int v = 0; v < 4; v++) {
            Check.due("A's variable " + v, v + 1, x.variable(0, v));
            Check.due("F's variable " + v, v + 5, x.variable(5, v));
        }
    }

    /** "d a figure 0 .. 9": one of them, and neither / nor : which stand beside them. */
    private static void labelsAreOneFigure() {
        for (char c = 33; c <= 126; c++) {
            Check.dueFault(isIn(FIGURES, c) ? NONE : 2, "A!" + c + ">B;");
            Check.dueFault(c == '>' ? NONE : 3, "A!0" + c + "B;");
        }
        for (char d : FIGURES.toCharArray()) {
            PlayCutter x = Check.loaded("A!" + d + ">B;", false);
            Check.due("told", "!" + d + ">B;", Check.part(x, 0));
            Check.due("heard", "A" + d + "{}", Check.part(x, 1));
        }
    }

    /** "o one of + - * / % < =": and none of the other signs. */
    private static void operatorsAreSeven() {
        for (char c = 33; c <= 126; c++) {
            boolean isOperator = isIn(OPERATORS, c);
            Check.dueFault(isOperator ? NONE : c == ';' ? 5 : 4, "Aw:x" + c + "y;");
            Check.dueFault(isOperator ? NONE : c == ':' ? 4 : c == '>' ? 3 : 2, "Ax" + c + "y>Bz;");
            Check.dueFault(isOperator ? NONE : c == '{' ? 4 : 3, "A?x" + c + "y{}{}");
            Check.dueFault(isOperator ? NONE : c == '{' ? 4 : 3, "A@x" + c + "y{}");
        }
    }

    /** "one to three figures (a number)": none, one, two, three and four, wherever a number stands. */
    private static void numbersHaveOneToThreeFigures() {
        for (int n = 0; n <= 5; n++) {
            String number = "90909".substring(0, n);
            dueFigures(n, "Aw:", number, ";");
            dueFigures(n, "Aw:x-", number, ";");
            dueFigures(n, "Aw:999*", number, ";");
            dueFigures(n, "A?", number, "{}{}");
            dueFigures(n, "A?y<", number, "{}{}");
            dueFigures(n, "A@", number, "{}");
            dueFigures(n, "A@999=", number, "{}");
            dueFigures(n, "A", number, ">Bw;");
            dueFigures(n, "Ax%", number, ">Bw;");
            dueFigures(n, "Aw:", number, "+1;");
        }
        String[] numbers = {"0", "9", "00", "10", "99", "000", "007", "100", "999"};
        for (String number : numbers) {
            PlayCutter x = Check.loaded("Aw:" + number + ";", false);
            Check.due("the part has all figures", "w:" + number + ";", Check.part(x, 0));
            x.step(0);
            Check.due("the number " + number, Integer.parseInt(number), x.variable(0, 0));
        }
    }

    private static void dueFigures(int n, String before, String number, String behind) {
        int wrongFigure = n == 0 ? 0 : 3;
        Check.dueFault(n >= 1 && n <= 3 ? NONE : before.length() + wrongFigure, before + number + behind);
    }

    /** "AN EXPRESSION is T, or T o T": none and three are none. */
    private static void anExpressionHasOneOrTwoTerms() {
        for (char o : OPERATORS.toCharArray()) {
            Check.dueFault(3, "Aw:" + o + ";");
            Check.dueFault(3, "Aw:" + o + "1;");
            Check.dueFault(5, "Aw:x" + o + ";");
            Check.dueFault(NONE, "Aw:x" + o + "1;");
            Check.dueFault(NONE, "Aw:999" + o + "999;");
            Check.dueFault(6, "Aw:x" + o + "1" + o + "y;");
            Check.dueFault(10, "Aw:999" + o + "999" + o + "1;");
            Check.dueFault(5, "Aw:x" + o + o + "y;");
        }
        Check.dueFault(3, "Aw:;");
        Check.dueFault(2, "A?{}{}");
        Check.dueFault(2, "A@{}");
        Check.dueFault(1, "A>Bw;");
        Check.dueFault(4, "Aw:xx;");
        Check.dueFault(4, "Aw:1x;");
        Check.dueFault(4, "Aw:x1;");
    }

    /** "A PLAY is 1 .. 40 STATEMENTS": an empty text is none, and the fault of 41 is the 41st's place. */
    private static void aPlayHasOneToFortyStatements() {
        Check.dueFault(0, "");
        for (int n : new int[] {1, 2, 39, 40}) {
            Check.dueFault(NONE, SET.repeat(n));
            PlayCutter x = Check.loaded(SET.repeat(n), false);
            Check.due("all " + n + " are in the part", 4 * n, x.length(0));
            Check.due("all " + n + " are done", n, x.whole(2000));
            Check.due("each is a step", n, x.run(0, 300));
        }
        // 40 closed statements fill all 200 letters, so the 41st stands behind open blocks.
        String thirtyNine = ROUND.repeat(6) + SET.repeat(33);
        String forty = thirtyNine + SET;
        for (char c = 33; c <= 126; c++) {
            Check.dueFault(isIn(PARTIES, c) || c == '}' ? 190 : 189, thirtyNine + c);
            Check.dueFault(c == '}' ? 195 : 194, forty + c);
            Check.dueFault(195, forty + "}" + (c == '}' ? "#" : c));
        }
        Check.dueFault(194, forty + SET);
        Check.dueFault(194, forty);
    }

    /** "The 40 count those in blocks, too": of either block of a choice, of rounds, and behind them. */
    private static void theFortyCountThoseInBlocks() {
        Check.dueFault(NONE, ROUND.repeat(6) + SET.repeat(34) + "}".repeat(6));
        Check.dueFault(NONE, ROUND + SET.repeat(38) + "}");
        Check.dueFault(NONE, ROUND.repeat(5) + SET.repeat(34) + "A@w{}" + "}".repeat(5));
        String inFirst = ROUND.repeat(5) + "A?w{" + SET.repeat(34);
        Check.dueFault(194, inFirst + "A");
        Check.dueFault(196, inFirst + "}{A");
        Check.dueFault(197, inFirst + "}{}A");
        Check.dueFault(198, inFirst + "}{}}");
        String fortiethIsChoice = ROUND.repeat(5) + SET.repeat(34) + "A?w{";
        Check.dueFault(194, fortiethIsChoice + "A");
        Check.dueFault(196, fortiethIsChoice + "}{A");
        Check.dueFault(197, fortiethIsChoice + "}{}A");
        Check.dueFault(200, fortiethIsChoice + "}{}}}}");
        String inSecond = "A?w{}{" + ROUND.repeat(5) + SET.repeat(33);
        Check.dueFault(192, inSecond + "A");
        Check.dueFault(196, inSecond + SET + "A");
    }

    /** "at most 6 blocks stand in one another": the fault is the place of a ? or @ in the sixth. */
    private static void atMostSixBlocksInOneAnother() {
        String[][] kinds = {{"A@w{", "}"}, {"A?w{", "}{}"}, {"A?w{}{", "}"}};
        for (String[] outer : kinds) {
            for (int n = 1; n <= 6; n++) {
                String open = outer[0].repeat(n);
                String closed = outer[1].repeat(n);
                Check.dueFault(NONE, open + closed);
                for (String flat : new String[] {"Aw:1;", "A1>Bw;", "A!1>B;"}) {
                    Check.dueFault(NONE, open + flat + closed);
                }
                for (String[] inner : kinds) {
                    int fault = n < 6 ? NONE : open.length() + 1;
                    Check.dueFault(fault, open + inner[0] + inner[1] + closed);
                    Check.dueFault(n < 6 ? NONE : fault + 6, open + "A1>Bw;" + inner[0] + inner[1] + closed);
                }
            }
            String again = outer[0].repeat(6) + outer[1] + outer[0];
            Check.dueFault(NONE, again + outer[1].repeat(6));
            Check.dueFault(again.length() + 1, again + "F?w{}{}");
            Check.dueFault(again.length() + 1, again + "F@w{}");
        }
    }

    /** "{ and any number of statements and }". */
    private static void aBlockHasAnyNumberOfStatements() {
        for (int n = 0; n <= 38; n++) {
            Check.dueFault(NONE, ROUND + SET.repeat(n) + "}");
        }
        for (int n = 0; n <= 18; n++) {
            Check.dueFault(NONE, "A?w{" + SET.repeat(n) + "}{" + SET.repeat(18 - n) + "}");
        }
    }

    /** "one behind the other, without anything between them". */
    private static void nothingStandsBetweenStatements() {
        for (char c = 33; c <= 126; c++) {
            boolean begins = isIn(PARTIES, c);
            Check.dueFault(begins ? 6 : 5, SET + c + "Bw:1;");
            Check.dueFault(begins ? 10 : c == '}' ? 15 : 9, ROUND + SET + c + SET + "}");
            Check.dueFault(begins ? 5 : c == '}' ? 5 : 4, ROUND + c + "}");
            Check.dueFault(c == '{' ? NONE : 5, "A?w{}" + c + "}");
            Check.dueFault(begins ? 1 : 0, c + SET);
        }
    }

    /** "how many characters its longest beginning has that is also a beginning of a play". */
    private static void theFaultOfABeginning() {
        String[] statements = {"Fz:999;", "Aw:x;", "Aw:12*345;", "A5>Bx;", "Aw+1>Bx;", "A1<w>Fz;", "B!0>A;",
            "A?w=100{Bx:1;}{C!1>B;}", "A@100-w{A@w{}Aw:1;}", "A?w{A?x{}{A?y{}{}}}{}"};
        for (String s : statements) {
            Check.dueFault(NONE, s);
            for (int i = 0; i < s.length(); i++) {
                Check.dueFault(i, s.substring(0, i));
                Check.dueFault(i, s.substring(0, i) + "#");
                Check.dueFault(i, s.substring(0, i) + "#" + s.substring(i));
            }
            Check.dueFault(s.length(), s + "}");
            Check.dueFault(s.length() + 1, s + "A");
        }
    }

    /** "a beginning of a play of any length": also of one that 200 characters don't hold. */
    private static void theFaultOfALongPlaysBeginning() {
        String begins = SET.repeat(38) + "A?w{Bx:12";
        Check.dueFault(199, begins);
        Check.dueFault(200, begins + "3");
        Check.dueFault(200, SET.repeat(39) + "A?w{}");
        Check.dueFault(199, SET.repeat(39) + "A?w{#");
        Check.dueFault(200, SET.repeat(38) + "A@999-999{");
        for (String s : new String[] {"Az:999-999;", "Aw>Bx;", "A999<999>Bx;", "A!9>B;", "A?w{A?w{}{}}{}", "A@w{Bw:1;}"}) {
            for (int i = 1; i < s.length(); i++) {
                Check.dueFault(200, sets(200 - i) + s.substring(0, i));
                Check.dueFault(199, sets(199 - i) + s.substring(0, i));
                Check.dueFault(199, sets(199 - i) + s.substring(0, i) + "#");
            }
        }
    }

    /** So many letters of whole sets, which are as few as can be, so that statements are left to come. */
    private static String sets(int letters) {
        String[] bySurplus = {"Aw:1;", "Aw:11;", "Aw:111;", "Aw:11+1;", "Aw:11+11;", "Aw:111+11;", "Aw:111+111;"};
        StringBuilder all = new StringBuilder();
        while (all.length() < letters) {
            int left = letters - all.length();
            int next = left <= 11 ? left : Math.min(11, left - 5);
            all.append(bySurplus[next - 5]);
        }
        return all.toString();
    }

    /** Promise 1: "No play, an empty text." */
    private static void aNewObjectHasAnEmptyText() {
        PlayCutter x = new PlayCutter();
        Check.dueThrow("no play", Check.STATE, () -> x.length(0));
        Check.type(x, SET);
        Check.dueThrow("no play before load", Check.STATE, () -> x.length(0));
        Check.due("load", 0, x.load(false));
        Check.due("nothing stood before it", "w:1;", Check.part(x, 0));
        PlayCutter y = new PlayCutter();
        Check.dueThrow("load of nothing", Check.ARGUMENT, () -> y.load(false));
        Check.due("its fault", 0, y.fault());
    }

    /** Promise 2: "False when one is not 33 .. 126", at each of the eight places of w. */
    private static void typeTakes33To126() {
        String eight = "Aw:1;Bx:";
        for (int place = 0; place < 8; place++) {
            for (int code = 1; code <= 255; code++) {
                PlayCutter x = new PlayCutter();
                long w = Check.packed(eight) & ~(255L << 8 * place) | (long) code << 8 * place;
                boolean isLetter = code >= 33 && code <= 126;
                Check.due("type with " + code + " at " + place, isLetter, x.type(w));
                String text = eight.substring(0, place) + (char) code + eight.substring(place + 1);
                dueText(isLetter ? text : "", x);
            }
        }
    }

    /** Asks that the text of x is this one, by what load() says of it with a letter more. */
    private static void dueText(String text, PlayCutter x) {
        PlayCutter y = new PlayCutter();
        for (char c : text.toCharArray()) {
            y.type(c);
        }
        Check.due("the text is " + text, outcome(y), outcome(x));
    }

    private static String outcome(PlayCutter x) {
        String outcome = "" + x.type('2');
        outcome += x.type(';');
        try {
            outcome += x.load(false) + Check.part(x, 0) + "|" + Check.part(x, 1);
        } catch (IllegalArgumentException e) {
            outcome += "no play";
        }
        return outcome + x.fault();
    }

    /** Promise 2: "up to the first that are 0, eight at most": what is behind the 0 is not looked at. */
    private static void typeTakesUpToTheFirstZero() {
        String eight = "Aw:1;Bx:";
        for (int place = 0; place < 8; place++) {
            long before = Check.packed(eight.substring(0, place));
            long[] behind = {0, Check.packed(eight), -1, 0x2020202020202020L, 0x7f7f7f7f7f7f7f7fL, Long.MIN_VALUE};
            for (long b : behind) {
                PlayCutter x = new PlayCutter();
                long w = before | (place < 7 ? b << 8 * place + 8 : 0);
                Check.due("type with 0 at " + place, true, x.type(w));
                dueText(eight.substring(0, place), x);
            }
        }
        PlayCutter x = new PlayCutter();
        Check.due("type eight", true, x.type(Check.packed(eight)));
        dueText(eight, x);
    }

    /** Promise 2: "or there would be more than 200". */
    private static void typeTakesTwoHundred() {
        for (int before = 191; before <= 200; before++) {
            for (int more = 0; more <= 8; more++) {
                PlayCutter x = new PlayCutter();
                String all = SET.repeat(42);
                Check.type(x, all.substring(0, before));
                String letters = all.substring(before, before + more);
                boolean fits = before + more <= 200;
                Check.due(before + " letters and " + more, fits, x.type(Check.packed(letters)));
                dueLetters(fits ? before + more : before, x);
            }
        }
        PlayCutter x = new PlayCutter();
        Check.type(x, SET.repeat(40));
        Check.due("a blank when it is full", false, x.type(' '));
        Check.due("nothing, and blanks behind it, when it is full", true, x.type(0x2020202020202000L));
        dueLetters(200, x);
        Check.type(x, SET.repeat(40));
        Check.due("behind load there is room for 200 again", false, x.type('A'));
        dueLetters(200, x);
    }

    /** Asks that the text is so many letters of sets, one behind the other. */
    private static void dueLetters(int n, PlayCutter x) {
        if (n % 5 == 0) {
            Check.due("load of " + n + " letters", 0, x.load(false));
            Check.due("sets in " + n + " letters", n / 5 * 4, x.length(0));
        } else {
            Check.dueThrow("load of " + n + " letters", Check.ARGUMENT, () -> x.load(false));
            Check.due("fault of " + n + " letters", n, x.fault());
        }
    }

    /** A type() that answers false leaves the text as it was, and the next one goes on behind that. */
    private static void typeThatIsRefusedPutsNothing() {
        PlayCutter x = new PlayCutter();
        Check.type(x, "Aw:1;A");
        Check.due("a blank behind letters", false, x.type(Check.packed("x:2; ")));
        Check.due("127 before letters", false, x.type(Check.packed("\u007fx:2;")));
        Check.type(x, "y:3;");
        Check.due("load", 0, x.load(false));
        Check.due("what was refused is not there", "w:1;y:3;", Check.part(x, 0));
    }
}
