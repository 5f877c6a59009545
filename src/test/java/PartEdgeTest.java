/** The boundaries of cutting: parts, led ones, joins, labels that are put in, and promises 3 to 7. */
public final class PartEdgeTest {

    private static final int NONE = PlayCutter.NONE;
    /** A choice of A at which B to F are unaware: 6 statements and 10 labels. */
    private static final String FIVE_UNAWARE = "A?w{Bw:1;Cw:1;Dw:1;Ew:1;Fw:1;}{}";

    public static void main(String[] args) {
        anEmptyPart();
        hearWithAnEmptyCase();
        nothingComesBehindHear();
        theLedNoneOneAndAll();
        labelsPutInBringNoOthers();
        joinOfEmptyRows();
        joinNeedsTheSame();
        joinOfHears();
        hearWithAllTenLabels();
        joinsOfPartsInOrder();
        joinOfWhatIsBehind();
        joinAtTheDeepest();
        unawareBeforeThePlayIsCut();
        theOrderOfChoices();
        theLeastWhoIsUnaware();
        labelsForOneToFive();
        atMostEightyStatements();
        theChoiceWithWhoseLabelsThereWereMoreThanEighty();
        Check.end();
    }

    private static void dueParts(String play, boolean putIn, String... parts) {
        PlayCutter x = Check.loaded(play, putIn);
        for (int p = 0; p < 6; p++) {
            Check.due("part " + p + " of " + play, p < parts.length ? parts[p] : "", Check.part(x, p));
        }
    }

    private static void dueUnaware(String play, int fault, int who) {
        Check.dueNoCut(play, false, Check.STATE, fault, who);
    }

    /** A party that does nothing has an empty part; promises 6 and 7 at its beginning and its end. */
    private static void anEmptyPart() {
        for (int p = 0; p < 6; p++) {
            int party = p;
            PlayCutter x = Check.loaded((char) ('A' + p) + "w:12;", false);
            for (int q = 0; q < 6; q++) {
                int other = q;
                int length = q == p ? 5 : 0;
                Check.due("length", length, x.length(q));
                Check.dueThrow("letter before the first", Check.ELEMENT, () -> x.letter(other, -1));
                Check.dueThrow("letter behind the last", Check.ELEMENT, () -> x.letter(other, length));
                Check.dueThrow("the least letter", Check.ELEMENT, () -> x.letter(other, Integer.MIN_VALUE));
                Check.dueThrow("the greatest letter", Check.ELEMENT, () -> x.letter(other, Integer.MAX_VALUE));
                Check.due("at", q == p ? 1 : 0, x.at(q));
            }
            Check.due("the first letter", 'w', x.letter(party, 0));
            Check.due("the last but one", '2', x.letter(party, 3));
            Check.due("the last letter", ';', x.letter(party, 4));
        }
        dueParts("A?w{}{}", false, "?w{}{}");
        dueParts("A@w{}", false, "@w{}");
    }

    /** A HEAR at the end of its row has a case whose part is empty. */
    private static void hearWithAnEmptyCase() {
        dueParts("A!0>B;", false, "!0>B;", "A0{}");
        dueParts("A!9>B;Cw:1;A1>Cx;", false, "!9>B;1>C;", "A9{}", "w:1;A>x;");
        dueParts("A@w{A!5>B;}Bx:1;", false, "@wB{!5>B;}", "A@{A5{}}x:1;");
    }

    /** "p's part in all that stands behind this statement in the row; nothing comes behind it". */
    private static void nothingComesBehindHear() {
        dueParts("A!1>B;Bx:1;", false, "!1>B;", "A1{x:1;}");
        dueParts("Bx:1;A!1>B;Bx:2;B!2>A;Ay:1;By:3;", false, "!1>B;B2{y:1;}", "x:1;A1{x:2;!2>A;y:3;}");
        dueParts("A!1>B;A!2>B;A!3>B;Bx:1;", false, "!1>B;!2>B;!3>B;", "A1{A2{A3{x:1;}}}");
        dueParts("A!1>B;A?w{A!1>B;Bx:1;}{A!2>B;}By:1;", false, "!1>B;?w{!1>B;}{!2>B;}",
                "A1{A1{x:1;}2{}y:1;}");
        dueParts("A@w{A!1>B;Bx:1;}By:1;A!2>B;Bz:1;", false, "@wB{!1>B;}!2>B;", "A@{A1{x:1;}}y:1;A2{z:1;}");
    }

    /** "let the LED be all parties but P that occur in R (as P or as Q of a statement there)". */
    private static void theLedNoneOneAndAll() {
        dueParts("A@w{}", false, "@w{}");
        dueParts("A@w{Aw:1;A?w{}{}A@x{}}", false, "@w{w:1;?w{}{}@x{}}");
        dueParts("F@w{E!1>D;}", false, "", "", "", "F@{E1{}}", "F@{!1>D;}", "@wDE{}");
        dueParts("C@w{F1>Cx;E1>Cx;D1>Cx;B1>Cx;A1>Cx;}", false, "C@{1>C;}", "C@{1>C;}",
                "@wABDEF{F>x;E>x;D>x;B>x;A>x;}", "C@{1>C;}", "C@{1>C;}", "C@{1>C;}");
        dueParts("A@w{A1>Fx;}Bx:1;", false, "@wF{1>F;}", "x:1;", "", "", "", "A@{A>x;}");
        dueParts("A@w{A?x{A@y{B!1>A;}}{A@y{B!1>A;}}}", false, "@wB{?x{@yB{B1{}}}{@yB{B1{}}}}", "A@{A@{!1>A;}}");
    }

    /** "labels that are put in bring no others": the led are the same with labels and without. */
    private static void labelsPutInBringNoOthers() {
        dueParts("A@w{A?x{Bx:1;}{}}", true, "@wB{?x{!1>B;}{!0>B;}}", "A@{A0{}1{x:1;}}");
        dueParts("A@w{F?x{Cx:1;}{}}Bx:1;", true, "@wCF{}", "x:1;", "A@{F0{}1{x:1;}}", "", "",
                "A@{?x{!1>C;}{!0>C;}}");
        dueParts("B?w{A@w{Cx:1;}}{}", true, "B0{}1{@wC{}}", "?w{!1>A;!1>C;}{!0>A;!0>C;}", "B0{}1{A@{x:1;}}");
    }

    /** "of two empty ones the empty one; otherwise each has a first action". */
    private static void joinOfEmptyRows() {
        dueParts("A?w{}{}", false, "?w{}{}");
        dueParts("A?w{Aw:1;}{}", false, "?w{w:1;}{}");
        dueUnaware("A?w{Bx:1;}{}", 0, 1);
        dueUnaware("A?w{}{Bx:1;}", 0, 1);
        dueParts("A?w{Bx:1;}{Bx:1;}", false, "?w{}{}", "x:1;");
        dueUnaware("A?w{Bx:1;Bx:1;}{Bx:1;}", 0, 1);
        dueUnaware("A?w{Bx:1;}{Bx:1;Bx:1;}", 0, 1);
        dueParts("A?w{Bx:1;Bx:1;}{Bx:1;Bx:1;}", false, "?w{}{}", "x:1;x:1;");
    }

    /** Asks that B is aware when R and S are alike, but not when S is another one. */
    private static void dueSame(String r, String s) {
        dueAware(r, r, true);
        dueAware(s, s, true);
        dueAware(r, s, false);
        dueAware(s, r, false);
    }

    /** A first tells C and D which way it is, so that none but B can be unaware. */
    private static void dueAware(String r, String s, boolean isAware) {
        String play = "A?w{A!1>C;A!1>D;" + r + "}{A!0>C;A!0>D;" + s + "}";
        if (isAware) {
            Check.due("fault of " + play, NONE, Check.loaded(play, false).fault());
        } else {
            dueUnaware(play, 0, 1);
        }
    }

    /** "of one kind and have the same variables, expressions (character by character), labels, parties and led". */
    private static void joinNeedsTheSame() {
        dueSame("Bx:1;", "By:1;");
        dueSame("Bx:1;", "Bx:01;");
        dueSame("Bx:y+1;", "Bx:1+y;");
        dueSame("Bx:y;", "Bx:y+0;");
        dueSame("Bx:999+999;", "Bx:999+998;");
        dueSame("B1>Cx;", "B2>Cx;");
        dueSame("B1>Cx;", "B1>Dx;");
        dueAware("B1>Cx;", "B1>Cy;", true);
        dueSame("C1>Bx;", "C1>By;");
        dueSame("C1>Bx;", "D1>Bx;");
        dueAware("C1>Bx;", "C2>Bx;", true);
        dueSame("B!0>C;", "B!1>C;");
        dueSame("B!1>C;", "B!1>D;");
        dueSame("C!1>B;", "D!1>B;");
        dueAware("C!0>B;", "C!9>B;", true);
        dueSame("B?x{}{}", "B?y{}{}");
        dueSame("B?x{By:1;}{}", "B?x{}{By:1;}");
        dueSame("B@x{}", "B@y{}");
        dueSame("B@x{}", "B@x{By:1;}");
        dueSame("B@x{C!1>D;}", "B@x{Cw:1;}");
        dueAware("B@x{Cw:1;}", "B@x{Cz:9;}", true);
        dueSame("C@x{By:1;}", "D@x{By:1;}");
        dueSame("C@x{By:1;}", "C@x{By:2;}");
        dueAware("C@x{By:1;}", "C@z{By:1;D1>Cw;}", true);
        String[] ofEachKind = {"Bx:1;", "B1>Cx;", "C1>Bx;", "B!1>C;", "C!1>B;", "B?1{}{}", "B@1{}", "C@1{Bx:1;}"};
        for (String one : ofEachKind) {
            for (String two : ofEachKind) {
                dueAware(one, two, one.equals(two));
            }
        }
    }

    /** "of HEAR, it has the cases of both (their labels need not be the same)". */
    private static void joinOfHears() {
        dueParts("A?w{A!3>B;Bx:1;}{A!5>B;}", false, "?w{!3>B;}{!5>B;}", "A3{x:1;}5{}");
        dueParts("A?w{A!5>B;Bx:1;}{A!3>B;}", false, "?w{!5>B;}{!3>B;}", "A3{}5{x:1;}");
        dueParts("A?w{A!3>B;Bx:1;}{A!3>B;Bx:1;}", false, "?w{!3>B;}{!3>B;}", "A3{x:1;}");
        dueUnaware("A?w{A!3>B;Bx:1;}{A!3>B;Bx:2;}", 0, 1);
        dueUnaware("A?w{A!3>B;Bx:1;}{A!3>B;}", 0, 1);
        // One label of two is common, and there the parts must have a join.
        String two = "{A?x{A!1>B;Bx:1;}{A!2>B;Bx:2;}}";
        dueParts("A?w" + two + "{A?x{A!2>B;Bx:2;}{A!3>B;}}", false, "?w{?x{!1>B;}{!2>B;}}{?x{!2>B;}{!3>B;}}",
                "A1{x:1;}2{x:2;}3{}");
        dueUnaware("A?w" + two + "{A?x{A!2>B;Bx:3;}{A!3>B;}}", 0, 1);
        // Behind HEAR, as behind all others, comes the join of what is behind.
        dueUnaware("A?w" + "{A?x{A!1>B;}{A!2>B;}Bx:1;}" + "{A?x{A!3>B;}{A!4>B;}}", 0, 1);
        dueParts("A?w" + "{A?x{A!1>B;}{A!2>B;}Bx:1;}" + "{A?x{A!3>B;}{A!4>B;}Bx:1;}", false,
                "?w{?x{!1>B;}{!2>B;}}{?x{!3>B;}{!4>B;}}", "A1{}2{}3{}4{}x:1;");
    }

    /** All labels 0 .. 9 as cases of one HEAR, told from the greatest to the least. */
    private static void hearWithAllTenLabels() {
        String play = choice(told(9), choice(choice(choice(told(8), told(7)), choice(told(6), told(5))),
                choice(choice(told(4), told(3)), choice(told(2), choice(told(1), told(0))))));
        Check.due("ten cases", "A0{}1{x:1;}2{x:2;}3{}4{x:4;}5{x:5;}6{}7{x:7;}8{x:8;}9{}",
                Check.part(Check.loaded(play, false), 1));
    }

    /** A tells B a label; behind every third one there is nothing to do. */
    private static String told(int d) {
        return "A!" + d + ">B;" + (d % 3 == 0 ? "" : "Bx:" + d + ";");
    }

    private static String choice(String r, String s) {
        return "A?w{" + r + "}{" + s + "}";
    }

    /** "The first action of the join is the same with the joins of their parts, in order". */
    private static void joinsOfPartsInOrder() {
        dueParts("A?w{B?x{B!1>C;}{B!2>C;}}{B?x{B!1>C;}{B!2>C;}}", false, "?w{}{}", "?x{!1>C;}{!2>C;}", "B1{}2{}");
        dueParts("A?w{B@x{A!1>C;}}{B@x{A!2>C;}}", false, "?w{B@{!1>C;}}{B@{!2>C;}}", "@xAC{}", "B@{A1{}2{}}");
        dueParts("A?w{B?x{A!1>C;}{A!1>C;}}{B?x{A!2>C;}{A!2>C;}}", false, "?w{!1>C;}{!2>C;}", "?x{}{}", "A1{}2{}");
    }

    /** "Behind it comes the join of what is behind them": the second and the last as well as the first. */
    private static void joinOfWhatIsBehind() {
        dueParts("A?w{Bx:1;A!1>B;}{Bx:1;A!2>B;}", false, "?w{!1>B;}{!2>B;}", "x:1;A1{}2{}");
        dueParts("A?w{Bx:1;By:2;A!1>B;Bz:1;}{Bx:1;By:2;A!2>B;}", false, "?w{!1>B;}{!2>B;}", "x:1;y:2;A1{z:1;}2{}");
        dueParts("A?w{A@x{A!1>B;}A!3>B;}{A@x{A!2>B;}A!4>B;}", false, "?w{@xB{!1>B;}!3>B;}{@xB{!2>B;}!4>B;}",
                "A@{A1{}2{}}A3{}4{}");
        dueParts("A?w{A!1>B;A!3>B;}{A!1>B;A!4>B;}", false, "?w{!1>B;!3>B;}{!1>B;!4>B;}", "A1{A3{}4{}}");
        dueUnaware("A?w{Bx:1;By:2;Bz:3;}{Bx:1;By:2;Bz:4;}", 0, 1);
        dueUnaware("A?w{Bx:1;By:2;Bz:3;}{Bx:1;By:2;}", 0, 1);
        dueUnaware("A?w{A!1>B;A!3>B;Bx:1;}{A!1>B;A!3>B;}", 0, 1);
    }

    /** As deep as 6 blocks, and as many tells as 200 letters hold in either block of a choice. */
    private static void joinAtTheDeepest() {
        String ones = "A!1>B;".repeat(15);
        String play = "A?w{" + ones + "}{" + ones.substring(6) + "A!2>B;}";
        dueParts(play, false, "?w{" + "!1>B;".repeat(15) + "}{" + "!1>B;".repeat(14) + "!2>B;}",
                "A1{".repeat(14) + "A1{}2{}" + "}".repeat(14));
        dueUnaware("A?w{" + ones + "}{" + ones.substring(6) + "}", 0, 1);
        String rounds = "A@w{".repeat(5);
        dueParts("A?w{" + rounds + "A!1>B;" + "}".repeat(5) + "}{" + rounds + "A!2>B;" + "}".repeat(5) + "}", false,
                "?w{" + "@wB{".repeat(5) + "!1>B;" + "}".repeat(5) + "}{" + "@wB{".repeat(5) + "!2>B;" + "}".repeat(6),
                "A@{".repeat(5) + "A1{}2{}" + "}".repeat(5));
        dueUnaware("A?w{" + rounds + "Bx:1;" + "}".repeat(5) + "}{" + rounds + "Bx:2;" + "}".repeat(5) + "}", 0, 1);
    }

    /** Not only the outermost choice is looked at: one in each kind of block makes load() throw. */
    private static void unawareBeforeThePlayIsCut() {
        String choice = "A?w{Bx:1;}{}";
        dueUnaware(choice, 0, 1);
        dueUnaware("C@w{" + choice + "}", 4, 1);
        dueUnaware("A?w{" + choice + "}{}", 4, 1);
        dueUnaware("A?w{}{" + choice + "}", 6, 1);
        dueUnaware("A@w{".repeat(5) + choice + "}".repeat(5), 20, 1);
        dueUnaware("Aw:1;".repeat(37) + choice, 185, 1);
    }

    /** "Choices are looked at inner ones before outer ones, and otherwise from the left." */
    private static void theOrderOfChoices() {
        String ofB = "A?w{Bx:1;}{}";
        String ofC = "A?w{Cx:1;}{}";
        dueUnaware(ofB + ofC, 0, 1);
        dueUnaware(ofC + ofB, 0, 2);
        dueUnaware("A?w{Bx:1;" + ofC + "}{}", 9, 2);
        dueUnaware("A?w{}{Bx:1;" + ofC + "}", 11, 2);
        dueUnaware("A?w{" + ofB + "}{" + ofC + "}", 4, 1);
        dueUnaware("A?w{" + ofC + "}{" + ofB + "}", 4, 2);
        // From the left is before deeper: the inner ones come first only of those in one another.
        dueUnaware(ofC + "A?w{A?w{" + ofB + "}{}}{}", 0, 2);
        dueUnaware("A?w{A?w{" + ofB + "}{}}{}" + ofC, 8, 1);
        dueUnaware("A?w{" + ofC + "A@w{" + ofB + "}}{}", 4, 2);
        // The inner one is right, so it is the outer one, though it is not looked at first.
        dueUnaware("A?w{Bx:1;A?w{}{}}{A?w{}{}}", 0, 1);
        dueUnaware("A?w{Bx:1;A?w{}{}}{A?w{}{}}" + ofC, 0, 1);
    }

    /** Promise 5: "The least number of the parties that are unaware there". */
    private static void theLeastWhoIsUnaware() {
        for (int p = 0; p < 6; p++) {
            for (int q = 0; q < 6; q++) {
                for (int r = 0; r < 6; r++) {
                    if (q != p && r != p && q != r) {
                        String sets = (char) ('A' + q) + "x:1;" + (char) ('A' + r) + "x:1;";
                        dueUnaware("Aw:1;" + (char) ('A' + p) + "?w{" + sets + "}{}", 5, Math.min(q, r));
                    }
                }
            }
        }
    }

    /** Promise 3: "two for each party that was unaware at a choice", "those of lesser Q first". */
    private static void labelsForOneToFive() {
        StringBuilder sets = new StringBuilder();
        StringBuilder ones = new StringBuilder();
        StringBuilder noughts = new StringBuilder();
        for (int n = 0; n <= 5; n++) {
            PlayCutter x = new PlayCutter();
            Check.type(x, "A?w{" + sets + "}{}");
            Check.due("labels for " + n, 2 * n, x.load(true));
            Check.due("fault", NONE, x.fault());
            Check.due("A tells " + n, "?w{" + ones + "}{" + noughts + "}", Check.part(x, 0));
            for (int q = 1; q < 6; q++) {
                Check.due("the part of " + q, q <= n ? "A0{}1{w:1;}" : "", Check.part(x, q));
            }
            char next = (char) ('B' + n);
            sets.insert(0, next + "w:1;");
            ones.append("!1>").append(next).append(';');
            noughts.append("!0>").append(next).append(';');
        }
    }

    /** "The statements, with those put in, must be at most 80." */
    private static void atMostEightyStatements() {
        for (int more = 0; more <= 8; more++) {
            dueStatements("Aw:1;".repeat(more) + FIVE_UNAWARE.repeat(4) + "A?w{Bw:1;Cw:1;Dw:1;Ew:1;}{}", 29 + more, 48);
        }
        for (int more = 0; more <= 6; more++) {
            dueStatements("Aw:1;".repeat(more) + FIVE_UNAWARE.repeat(5), 30 + more, 50);
        }
    }

    /** Asks for the labels of so many statements; those before the last choice's make less than 80. */
    private static void dueStatements(String play, int statements, int labels) {
        if (statements + labels > 80) {
            Check.dueNoCut(play, true, Check.UNSUPPORTED, play.lastIndexOf("A?"), NONE);
        } else {
            PlayCutter x = new PlayCutter();
            Check.type(x, play);
            Check.due("labels put in with " + statements + " statements", labels, x.load(true));
            Check.due("fault", NONE, x.fault());
        }
    }

    /** Promise 4: "or of that with whose labels there were more than 80", as the choices are looked at. */
    private static void theChoiceWithWhoseLabelsThereWereMoreThanEighty() {
        String outer = "A?w{" + FIVE_UNAWARE.repeat(4) + "}{}";
        PlayCutter x = new PlayCutter();
        Check.type(x, outer + "Aw:1;".repeat(5));
        Check.due("30 statements, 40 labels in it and 10 of its own", 50, x.load(true));
        Check.dueNoCut(outer + "Aw:1;".repeat(6), true, Check.UNSUPPORTED, 0, NONE);
        Check.dueNoCut("Aw:1;".repeat(6) + outer, true, Check.UNSUPPORTED, 30, NONE);
        Check.dueNoCut("A?w{" + FIVE_UNAWARE.repeat(5) + "}{}", true, Check.UNSUPPORTED, 4 + 4 * 32, NONE);
        Check.dueNoCut("A?w{}{" + FIVE_UNAWARE.repeat(5) + "}", true, Check.UNSUPPORTED, 6 + 4 * 32, NONE);
        Check.dueNoCut(FIVE_UNAWARE.repeat(6), true, Check.UNSUPPORTED, 4 * 32, NONE);
        // Without labels it is the first at which one is unaware, and nobody asks how many there would be.
        Check.dueNoCut(FIVE_UNAWARE.repeat(6), false, Check.STATE, 0, 1);
        Check.dueNoCut(outer + "Aw:1;".repeat(6), false, Check.STATE, 4, 1);
    }
}
