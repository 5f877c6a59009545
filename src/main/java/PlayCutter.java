import java.util.NoSuchElementException;

/**
 * Reads a play for several parties, which tells in one row what they do; cuts it into a part for
 * each of them; puts in what they must be told, if that is wanted; lets the parts go on step by
 * step, each for itself, over queues of messages; and does the play as it is written, to compare.
 */
public final class PlayCutter {

    public static final int NONE = -1;
    public static final int WAITS = 0;
    public static final int DID = 1;
    public static final int ENDED = 2;

    private static final int PARTIES = 6;
    private static final int VARIABLES = 4;
    private static final int LABELS = 10;
    private static final int MOST_LETTERS = 200;
    private static final int MOST_STATEMENTS = 40;
    private static final int MOST_WITH_LABELS = 80;
    private static final int MOST_BLOCKS = 6;
    private static final int MOST_FIGURES = 3;
    private static final int PACKED_LETTERS = 8;
    private static final int FIRST_ROOM = 4;
    private static final int MOST_ROOM = 8;
    private static final int MOST_TURNS = 300;
    private static final int MOST_DONE = 2000;

    /** Actions stand in one another some 34 deep: 200 letters hold 28 tells behind 6 rounds. */
    private static final int MOST_DEPTH = 64;

    /** No part's text is longer than the play's 200 letters, 4 more a round, 5 more a label put in. */
    private static final int MOST_PART_LETTERS = 600;

    /** The kinds of actions, as at() answers them; a statement has the kind of its first party's action. */
    private static final int SET = 1;
    private static final int SEND = 2;
    private static final int TAKE = 3;
    private static final int TELL = 4;
    private static final int HEAR = 5;
    private static final int CHOOSE = 6;
    private static final int ROUND = 7;
    private static final int FOLLOW = 8;

    private final char[] text = new char[MOST_LETTERS];
    private int letters;
    private int fault = NONE;
    private int who = NONE;
    private Statement play;
    private final Stage stage = new Stage();
    private final int[] wanted = new int[PARTIES * VARIABLES];

    public PlayCutter() {
    }

    public boolean type(long w) {
        int more = 0;
        while (more < PACKED_LETTERS && packedLetter(w, more) != 0) {
            char c = packedLetter(w, more);
            if (c < 33 || c > 126) {
                return false;
            }
            more++;
        }
        if (letters + more > MOST_LETTERS) {
            return false;
        }
        for (int i = 0; i < more; i++) {
            text[letters + i] = packedLetter(w, i);
        }
        letters += more;
        return true;
    }

    public int load(boolean putIn)
            throws IllegalArgumentException, IllegalStateException, UnsupportedOperationException {
        PlayReader reader = new PlayReader(text, letters);
        Statement read = reader.readPlay();
        letters = 0;
        if (read == null) {
            fault = reader.place;
            who = NONE;
            throw new IllegalArgumentException();
        }
        Cutter cutter = new Cutter(putIn, reader.count);
        Row[] parts = cutter.cutRow(read, 0);
        fault = cutter.fault;
        who = cutter.who;
        if (who != NONE) {
            throw new IllegalStateException();
        }
        if (fault != NONE) {
            throw new UnsupportedOperationException();
        }
        Statement.settle(read, null, 0);
        play = read;
        stage.takeParts(parts);
        clear(wanted);
        return cutter.statements - reader.count;
    }

    public int fault() {
        return fault;
    }

    public int who() {
        return who;
    }

    public int length(int party) throws IndexOutOfBoundsException, IllegalStateException {
        needParty(party);
        needPlay();
        return stage.parties[party].text.count;
    }

    public int letter(int party, int i)
            throws IndexOutOfBoundsException, IllegalStateException, NoSuchElementException {
        needParty(party);
        needPlay();
        PartText part = stage.parties[party].text;
        if (i < 0 || i >= part.count) {
            throw new NoSuchElementException();
        }
        return part.letters[i];
    }

    public int input(int party, int v, int x) throws IndexOutOfBoundsException, IllegalStateException {
        needVariable(party, v);
        needNoStep();
        int k = indexOf(party, v);
        int before = stage.inputs[k];
        stage.inputs[k] = x;
        stage.variables[k] = x;
        return before;
    }

    public void room(int k) throws IllegalArgumentException, IllegalStateException {
        if (k < 1 || k > MOST_ROOM) {
            throw new IllegalArgumentException();
        }
        needNoStep();
        stage.room = k;
    }

    public void reset() throws IllegalStateException {
        needPlay();
        stage.beginAgain();
    }

    public int step(int party) throws IndexOutOfBoundsException, IllegalStateException {
        needParty(party);
        needPlay();
        return stage.takeTurn(party);
    }

    public int run(int first, int n)
            throws IndexOutOfBoundsException, IllegalArgumentException, IllegalStateException {
        needParty(first);
        if (n < 0 || n > MOST_TURNS) {
            throw new IllegalArgumentException();
        }
        needPlay();
        int did = 0;
        for (int i = 0; i < n; i++) {
            if (stage.takeTurn((first + i) % PARTIES) == DID) {
                did++;
            }
        }
        return did;
    }

    public int at(int party) throws IndexOutOfBoundsException, IllegalStateException {
        needParty(party);
        needPlay();
        Action action = stage.parties[party].action;
        return action == null ? 0 : action.kind;
    }

    public int variable(int party, int v) throws IndexOutOfBoundsException {
        needVariable(party, v);
        return stage.variables[indexOf(party, v)];
    }

    public int queue(int from, int to) throws IndexOutOfBoundsException {
        needPair(from, to);
        return stage.queueOf(from, to).size;
    }

    public int message(int from, int to, int i) throws IndexOutOfBoundsException, NoSuchElementException {
        needMessage(from, to, i);
        return stage.queueOf(from, to).valueAt(i);
    }

    public boolean label(int from, int to, int i) throws IndexOutOfBoundsException, NoSuchElementException {
        needMessage(from, to, i);
        return stage.queueOf(from, to).isLabelAt(i);
    }

    public int whole(int n) throws IllegalArgumentException, IllegalStateException {
        if (n < 0 || n > MOST_DONE) {
            throw new IllegalArgumentException();
        }
        needPlay();
        System.arraycopy(stage.inputs, 0, wanted, 0, wanted.length);
        Statement next = play;
        int done = 0;
        while (done < n && next != null) {
            next = next.perform(wanted);
            done++;
        }
        return next == null ? done : NONE;
    }

    public int wanted(int party, int v) throws IndexOutOfBoundsException {
        needVariable(party, v);
        return wanted[indexOf(party, v)];
    }

    private void needPlay() {
        if (play == null) {
            throw new IllegalStateException();
        }
    }

    private void needNoStep() {
        if (play == null || stage.stepped) {
            throw new IllegalStateException();
        }
    }

    private static void needParty(int party) {
        if (!isParty(party)) {
            throw new IndexOutOfBoundsException();
        }
    }

    private static void needVariable(int party, int v) {
        if (!isParty(party) || v < 0 || v >= VARIABLES) {
            throw new IndexOutOfBoundsException();
        }
    }

    private static void needPair(int from, int to) {
        if (!isParty(from) || !isParty(to) || from == to) {
            throw new IndexOutOfBoundsException();
        }
    }

    private void needMessage(int from, int to, int i) {
        needPair(from, to);
        if (i < 0 || i >= stage.queueOf(from, to).size) {
            throw new NoSuchElementException();
        }
    }

    private static boolean isParty(int party) {
        return party >= 0 && party < PARTIES;
    }

    private static int indexOf(int party, int v) {
        return party * VARIABLES + v;
    }

    private static boolean contains(int bits, int i) {
        return (bits >> i & 1) != 0;
    }

    private static char packedLetter(long packed, int i) {
        return (char) (packed >>> 8 * i & 255);
    }

    private static void clear(int[] row) {
        for (int i = 0; i < row.length; i++) {
            row[i] = 0;
        }
    }

    /**
     * An expression has at most seven letters, so it is held as a long, the first letter in the
     * lowest 8 bits: two are the same, character by character, when the longs are equal.
     */
    private static final class Expression {

        static boolean isVariable(char c) {
            return c >= 'w' && c <= 'z';
        }

        static boolean isFigure(char c) {
            return c >= '0' && c <= '9';
        }

        static boolean isOperator(char c) {
            return c == '+' || c == '-' || c == '*' || c == '/' || c == '%' || c == '<' || c == '=';
        }

        /** The value for a party, by the row of all variables. */
        static int value(long expression, int[] variables, int party) {
            int split = 1;
            while (split < PACKED_LETTERS && !endsTerm(packedLetter(expression, split))) {
                split++;
            }
            int left = termValue(expression, 0, variables, party);
            char operator = split < PACKED_LETTERS ? packedLetter(expression, split) : 0;
            if (operator == 0) {
                return left;
            }
            return combined(operator, left, termValue(expression, split + 1, variables, party));
        }

        private static boolean endsTerm(char c) {
            return c == 0 || isOperator(c);
        }

        private static int termValue(long expression, int from, int[] variables, int party) {
            char c = packedLetter(expression, from);
            if (isVariable(c)) {
                return variables[indexOf(party, c - 'w')];
            }
            int number = 0;
            for (int i = from; i < PACKED_LETTERS && isFigure(packedLetter(expression, i)); i++) {
                number = 10 * number + packedLetter(expression, i) - '0';
            }
            return number;
        }

        private static int combined(char operator, int a, int b) {
            switch (operator) {
                case '+':
                    return a + b;
                case '-':
                    return a - b;
                case '*':
                    return a * b;
                case '/':
                    return b == 0 ? 0 : a / b;
                case '%':
                    return b == 0 ? 0 : a % b;
                case '<':
                    return a < b ? 1 : 0;
                default:
                    return a == b ? 1 : 0;
            }
        }
    }

    /** A statement of the play as it is written; what is put in makes none. */
    private static final class Statement {

        private final int place;
        private int kind;
        private int party;
        private int other = NONE;
        private int variable;
        private int label;
        private long expression;
        private Statement first;
        private Statement second;
        private Statement next;
        private Statement behind;
        /** Bit p: party p occurs here or in the blocks. */
        private int occurring;

        Statement(int place) {
            this.place = place;
        }

        /** Says for each statement of a row, and of its blocks, where the play goes on behind it. */
        private static void settle(Statement row, Statement behindRow, int depth) {
            if (depth > MOST_BLOCKS) {
                return;
            }
            for (Statement s = row; s != null; s = s.next) {
                s.behind = s.next == null ? behindRow : s.next;
                settle(s.first, s.kind == ROUND ? s : s.behind, depth + 1);
                settle(s.second, s.behind, depth + 1);
            }
        }

        /** Does this statement alone (a block is entered, not done) and answers the next one. */
        Statement perform(int[] variables) {
            if (kind == TELL) {
                return behind;
            }
            int value = Expression.value(expression, variables, party);
            switch (kind) {
                case SET:
                    variables[indexOf(party, variable)] = value;
                    return behind;
                case SEND:
                    variables[indexOf(other, variable)] = value;
                    return behind;
                case CHOOSE:
                    return orElse(value != 0 ? first : second, behind);
                default:
                    return value != 0 ? orElse(first, this) : behind;
            }
        }

        private static Statement orElse(Statement row, Statement whenEmpty) {
            return row == null ? whenEmpty : row;
        }
    }

    /** Reads letter by letter and stops at the first that no play can have there: that is the fault. */
    private static final class PlayReader {

        private final char[] text;
        private final int end;
        private int place;
        private int count;
        private boolean wrong;
        private long expression;
        private int expressionLength;

        PlayReader(char[] text, int end) {
            this.text = text;
            this.end = end;
        }

        /** The first statement, or null when the text is no play (an empty one has none). */
        Statement readPlay() {
            Statement first = readRow(0);
            return wrong ? null : first;
        }

        private Statement readRow(int depth) {
            Statement first = null;
            Statement last = null;
            for (int i = 0; i <= MOST_STATEMENTS && !wrong && !rowEnds(depth); i++) {
                Statement s = readStatement(depth);
                if (last == null) {
                    first = s;
                } else {
                    last.next = s;
                }
                last = s;
            }
            return first;
        }

        private boolean rowEnds(int depth) {
            return depth == 0 ? place == end : ahead(0) == '}';
        }

        private Statement readStatement(int depth) {
            Statement s = new Statement(place);
            if (count == MOST_STATEMENTS) {
                wrong = true;
                return s;
            }
            count++;
            s.party = readOneOf('A', PARTIES);
            char c = ahead(0);
            if (c == '!') {
                readTell(s);
            } else if (c == '?' || c == '@') {
                readBranches(s, depth);
            } else if (Expression.isVariable(c) && ahead(1) == ':') {
                readSet(s);
            } else {
                readSend(s);
            }
            s.occurring = bitOf(s.party) | bitOf(s.other) | occurringIn(s.first) | occurringIn(s.second);
            return s;
        }

        private void readSet(Statement s) {
            s.kind = SET;
            s.variable = readOneOf('w', VARIABLES);
            expect(':');
            s.expression = readExpression();
            expect(';');
        }

        private void readSend(Statement s) {
            s.kind = SEND;
            s.expression = readExpression();
            expect('>');
            s.other = readOther(s.party);
            s.variable = readOneOf('w', VARIABLES);
            expect(';');
        }

        private void readTell(Statement s) {
            s.kind = TELL;
            expect('!');
            s.label = readOneOf('0', LABELS);
            expect('>');
            s.other = readOther(s.party);
            expect(';');
        }

        private void readBranches(Statement s, int depth) {
            if (depth >= MOST_BLOCKS) {
                wrong = true;
                return;
            }
            s.kind = ahead(0) == '?' ? CHOOSE : ROUND;
            place++;
            s.expression = readExpression();
            s.first = readBlock(depth + 1);
            if (s.kind == CHOOSE) {
                s.second = readBlock(depth + 1);
            }
        }

        private Statement readBlock(int depth) {
            expect('{');
            Statement row = readRow(depth);
            expect('}');
            return row;
        }

        private long readExpression() {
            expression = 0;
            expressionLength = 0;
            readTerm();
            if (Expression.isOperator(ahead(0))) {
                keep();
                readTerm();
            }
            return expression;
        }

        private void readTerm() {
            if (Expression.isVariable(ahead(0))) {
                keep();
                return;
            }
            if (!Expression.isFigure(ahead(0))) {
                wrong = true;
            }
            for (int i = 0; i < MOST_FIGURES && Expression.isFigure(ahead(0)); i++) {
                keep();
            }
        }

        /** Takes the next letter, which the caller has seen, into the expression. */
        private void keep() {
            if (place < end) {
                expression |= (long) text[place] << 8 * expressionLength;
                expressionLength++;
                place++;
            }
        }

        private int readOther(int party) {
            if (ahead(0) == 'A' + party) {
                wrong = true;
            }
            return readOneOf('A', PARTIES);
        }

        /** Which of so many letters, from the first one on, comes next; 0 when it is none of them. */
        private int readOneOf(char first, int many) {
            int which = ahead(0) - first;
            if (which < 0 || which >= many) {
                wrong = true;
                return 0;
            }
            place++;
            return which;
        }

        private void expect(char c) {
            if (ahead(0) == c) {
                place++;
            } else {
                wrong = true;
            }
        }

        /** The letter i behind the next one; 0, which is in no text, at the end or once it is wrong. */
        private char ahead(int i) {
            return !wrong && place + i < end ? text[place + i] : 0;
        }

        private static int bitOf(int party) {
            return isParty(party) ? 1 << party : 0;
        }

        private static int occurringIn(Statement row) {
            int all = 0;
            for (Statement s = row; s != null; s = s.next) {
                all |= s.occurring;
            }
            return all;
        }
    }

    /** An action, the first of a row that goes on with next. */
    private static final class Action {

        private final int kind;
        private int variable;
        private int label;
        private int other;
        private int led;
        private long expression;
        /** The parts in it: of HEAR by label; of CHOOSE both; of ROUND and FOLLOW one. */
        private final Action[] parts;
        /** Bit i: there is a part i, though it may be empty. */
        private int present;
        private Action next;
        private Action behind;

        Action(int kind) {
            this.kind = kind;
            this.parts = new Action[partsOf(kind)];
        }

        private static int partsOf(int kind) {
            switch (kind) {
                case HEAR:
                    return LABELS;
                case CHOOSE:
                    return 2;
                case ROUND:
                case FOLLOW:
                    return 1;
                default:
                    return 0;
            }
        }

        static Action tell(int label, int to) {
            Action a = new Action(TELL);
            a.label = label;
            a.other = to;
            return a;
        }

        static Action hear(int from) {
            Action a = new Action(HEAR);
            a.other = from;
            return a;
        }

        boolean hasPart(int i) {
            return i >= 0 && i < parts.length && (present >> i & 1) != 0;
        }

        void setPart(int i, Action row) {
            if (i >= 0 && i < parts.length) {
                parts[i] = row;
                present |= 1 << i;
            }
        }

        /** Where a party goes on that enters part i. */
        Action enter(int i) {
            if (hasPart(i) && parts[i] != null) {
                return parts[i];
            }
            return comesAgain() ? this : behind;
        }

        private boolean comesAgain() {
            return kind == ROUND || kind == FOLLOW;
        }

        /** The least of the led with this number or a greater one, or NONE. */
        int ledFrom(int least) {
            for (int p = least; p < PARTIES; p++) {
                if (contains(led, p)) {
                    return p;
                }
            }
            return NONE;
        }

        /** Says for each action of a row, and of the parts in it, where a party goes on behind it. */
        private static void settle(Action row, Action behindRow, int depth) {
            if (depth > MOST_DEPTH) {
                return;
            }
            for (Action a = row; a != null; a = a.next) {
                a.behind = a.next == null ? behindRow : a.next;
                for (int i = 0; i < a.parts.length; i++) {
                    settle(a.parts[i], a.comesAgain() ? a : a.behind, depth + 1);
                }
            }
        }

        private static boolean canJoin(Action one, Action two, int depth) {
            if (depth > MOST_DEPTH) {
                return false;
            }
            Action a = one;
            Action b = two;
            while (a != null && b != null) {
                if (!a.isLike(b) || !partsCanJoin(a, b, depth)) {
                    return false;
                }
                a = a.next;
                b = b.next;
            }
            return a == null && b == null;
        }

        private static boolean partsCanJoin(Action a, Action b, int depth) {
            for (int i = 0; i < a.parts.length; i++) {
                if (a.hasPart(i) && b.hasPart(i) && !canJoin(a.parts[i], b.parts[i], depth + 1)) {
                    return false;
                }
            }
            return true;
        }

        /** The same but for the parts in it: fields that a kind has no use for are 0 in all of that kind. */
        private boolean isLike(Action b) {
            return kind == b.kind && variable == b.variable && expression == b.expression
                    && label == b.label && other == b.other && led == b.led;
        }

        /** Makes of the first row the join of two that can be joined; the second is used up. */
        private static void join(Action one, Action two, int depth) {
            if (depth > MOST_DEPTH) {
                return;
            }
            Action a = one;
            Action b = two;
            while (a != null && b != null) {
                joinParts(a, b, depth);
                a = a.next;
                b = b.next;
            }
        }

        private static void joinParts(Action a, Action b, int depth) {
            for (int i = 0; i < b.parts.length; i++) {
                if (a.hasPart(i) && b.hasPart(i)) {
                    join(a.parts[i], b.parts[i], depth + 1);
                } else if (b.hasPart(i)) {
                    a.setPart(i, b.parts[i]);
                }
            }
        }
    }

    /** A party's part in a row of statements, while it grows from the left. */
    private static final class Row {

        private Action first;
        private Action last;
        /** The HEAR, made by a tell of this very row, into whose case all comes that stands behind it. */
        private Action heard;
        private int label;

        void append(Action row) {
            if (row == null) {
                return;
            }
            if (last != null) {
                last.next = row;
            } else if (heard != null) {
                heard.setPart(label, row);
            } else {
                first = row;
            }
            last = row;
            while (last.next != null) {
                last = last.next;
            }
        }

        void appendHear(int from, int toldLabel) {
            Action hear = Action.hear(from);
            hear.setPart(toldLabel, null);
            append(hear);
            heard = hear;
            label = toldLabel;
            last = null;
        }
    }

    /** Cuts a play into parts; it stops, with its fault told, at the first choice that can't be cut. */
    private static final class Cutter {

        private final boolean putIn;
        private int statements;
        private int fault = NONE;
        private int who = NONE;

        Cutter(boolean putIn, int statements) {
            this.putIn = putIn;
            this.statements = statements;
        }

        /** All parties' parts in a row; going from the left, inner choices come before outer ones. */
        private Row[] cutRow(Statement row, int depth) {
            Row[] parts = new Row[PARTIES];
            for (int p = 0; p < PARTIES; p++) {
                parts[p] = new Row();
            }
            if (depth > MOST_BLOCKS) {
                return parts;
            }
            for (Statement s = row; s != null && fault == NONE; s = s.next) {
                cutStatement(s, parts, depth);
            }
            return parts;
        }

        private void cutStatement(Statement s, Row[] parts, int depth) {
            switch (s.kind) {
                case SET:
                    cutSet(s, parts);
                    break;
                case SEND:
                    cutSend(s, parts);
                    break;
                case TELL:
                    parts[s.party].append(Action.tell(s.label, s.other));
                    parts[s.other].appendHear(s.party, s.label);
                    break;
                case ROUND:
                    cutRound(s, parts, cutRow(s.first, depth + 1));
                    break;
                default:
                    Row[] first = cutRow(s.first, depth + 1);
                    Row[] second = cutRow(s.second, depth + 1);
                    if (fault == NONE) {
                        cutChoice(s, parts, first, second);
                    }
                    break;
            }
        }

        private static void cutSet(Statement s, Row[] parts) {
            Action set = new Action(SET);
            set.variable = s.variable;
            set.expression = s.expression;
            parts[s.party].append(set);
        }

        private static void cutSend(Statement s, Row[] parts) {
            Action send = new Action(SEND);
            send.expression = s.expression;
            send.other = s.other;
            parts[s.party].append(send);
            Action take = new Action(TAKE);
            take.variable = s.variable;
            take.other = s.party;
            parts[s.other].append(take);
        }

        private static void cutRound(Statement s, Row[] parts, Row[] inner) {
            Action round = new Action(ROUND);
            round.expression = s.expression;
            round.led = s.occurring & ~(1 << s.party);
            round.setPart(0, inner[s.party].first);
            parts[s.party].append(round);
            for (int p = 0; p < PARTIES; p++) {
                if (contains(round.led, p)) {
                    Action follow = new Action(FOLLOW);
                    follow.other = s.party;
                    follow.setPart(0, inner[p].first);
                    parts[p].append(follow);
                }
            }
        }

        private void cutChoice(Statement s, Row[] parts, Row[] first, Row[] second) {
            int unaware = unawareAt(s, first, second);
            if (unaware != 0 && !mayPutIn(s, unaware)) {
                return;
            }
            Action choice = new Action(CHOOSE);
            choice.expression = s.expression;
            choice.setPart(0, withTells(1, unaware, first[s.party].first));
            choice.setPart(1, withTells(0, unaware, second[s.party].first));
            parts[s.party].append(choice);
            for (int p = 0; p < PARTIES; p++) {
                if (p == s.party) {
                    continue;
                }
                if (contains(unaware, p)) {
                    parts[p].append(toldPart(s.party, first[p].first, second[p].first));
                } else {
                    Action.join(first[p].first, second[p].first, 0);
                    parts[p].append(first[p].first);
                }
            }
        }

        private static int unawareAt(Statement s, Row[] first, Row[] second) {
            int unaware = 0;
            for (int p = 0; p < PARTIES; p++) {
                if (p != s.party && !Action.canJoin(first[p].first, second[p].first, 0)) {
                    unaware |= 1 << p;
                }
            }
            return unaware;
        }

        private boolean mayPutIn(Statement s, int unaware) {
            if (!putIn) {
                fault = s.place;
                who = leastOf(unaware);
                return false;
            }
            statements += 2 * Integer.bitCount(unaware);
            if (statements > MOST_WITH_LABELS) {
                fault = s.place;
                return false;
            }
            return true;
        }

        private static int leastOf(int parties) {
            for (int p = 0; p < PARTIES; p++) {
                if (contains(parties, p)) {
                    return p;
                }
            }
            return NONE;
        }

        /** The chooser's part in a block, behind its telling the label to all that are unaware. */
        private static Action withTells(int label, int unaware, Action part) {
            Action first = part;
            for (int p = PARTIES - 1; p >= 0; p--) {
                if (contains(unaware, p)) {
                    Action tell = Action.tell(label, p);
                    tell.next = first;
                    first = tell;
                }
            }
            return first;
        }

        /** The join of the two parts of a party, each behind the label that is put in. */
        private static Action toldPart(int from, Action first, Action second) {
            Action hear = Action.hear(from);
            hear.setPart(1, first);
            hear.setPart(0, second);
            return hear;
        }
    }

    /** The text of a part. */
    private static final class PartText {

        private final char[] letters = new char[MOST_PART_LETTERS];
        private int count;

        void write(Action part) {
            count = 0;
            writeRow(part, 0);
        }

        private void writeRow(Action row, int depth) {
            if (depth > MOST_DEPTH) {
                return;
            }
            for (Action a = row; a != null; a = a.next) {
                writeHead(a);
                for (int i = 0; i < a.parts.length; i++) {
                    if (a.hasPart(i)) {
                        if (a.kind == HEAR) {
                            put('0', i);
                        }
                        put('{', 0);
                        writeRow(a.parts[i], depth + 1);
                        put('}', 0);
                    }
                }
            }
        }

        /** All of an action but the parts in it. */
        private void writeHead(Action a) {
            switch (a.kind) {
                case SET:
                    put('w', a.variable);
                    put(':', 0);
                    putExpression(a.expression);
                    put(';', 0);
                    break;
                case SEND:
                    putExpression(a.expression);
                    putTo(a.other);
                    break;
                case TAKE:
                    put('A', a.other);
                    put('>', 0);
                    put('w', a.variable);
                    put(';', 0);
                    break;
                case TELL:
                    put('!', 0);
                    put('0', a.label);
                    putTo(a.other);
                    break;
                default:
                    writeHeadOfParts(a);
                    break;
            }
        }

        private void writeHeadOfParts(Action a) {
            switch (a.kind) {
                case HEAR:
                    put('A', a.other);
                    break;
                case CHOOSE:
                    put('?', 0);
                    putExpression(a.expression);
                    break;
                case ROUND:
                    put('@', 0);
                    putExpression(a.expression);
                    putLed(a.led);
                    break;
                default:
                    put('A', a.other);
                    put('@', 0);
                    break;
            }
        }

        private void putLed(int led) {
            for (int p = 0; p < PARTIES; p++) {
                if (contains(led, p)) {
                    put('A', p);
                }
            }
        }

        private void putTo(int party) {
            put('>', 0);
            put('A', party);
            put(';', 0);
        }

        private void putExpression(long expression) {
            for (int i = 0; i < PACKED_LETTERS && packedLetter(expression, i) != 0; i++) {
                put(packedLetter(expression, i), 0);
            }
        }

        private void put(char base, int more) {
            if (count < letters.length) {
                letters[count] = (char) (base + more);
                count++;
            }
        }
    }

    /** A queue of messages, in a ring. */
    private static final class Queue {

        private final int[] values = new int[MOST_ROOM];
        private final boolean[] labels = new boolean[MOST_ROOM];
        private int head;
        private int size;

        int valueAt(int i) {
            return values[(head + i) % MOST_ROOM];
        }

        boolean isLabelAt(int i) {
            return labels[(head + i) % MOST_ROOM];
        }

        void add(int value, boolean isLabel) {
            if (size < MOST_ROOM) {
                int end = (head + size) % MOST_ROOM;
                values[end] = value;
                labels[end] = isLabel;
                size++;
            }
        }

        void removeFirst() {
            if (size > 0) {
                head = (head + 1) % MOST_ROOM;
                size--;
            }
        }
    }

    /** What a party has of its own: its part, and how far it is there. */
    private static final class Party {

        private final PartText text = new PartText();
        private Action first;
        /** The action at which it is; null when it has ended. */
        private Action action;
        /** At ROUND: whether E was asked, what it was, and who is told it next (NONE: nobody). */
        private boolean asked;
        private int answer;
        private int toTell;

        void begin() {
            action = first;
            asked = false;
        }
    }

    /** The parties at work, with their variables and the queues between them. */
    private static final class Stage {

        private final Party[] parties = new Party[PARTIES];
        private final Queue[] queues = new Queue[PARTIES * PARTIES];
        private final int[] inputs = new int[PARTIES * VARIABLES];
        private final int[] variables = new int[PARTIES * VARIABLES];
        private int room = FIRST_ROOM;
        private boolean stepped;

        Stage() {
            for (int i = 0; i < parties.length; i++) {
                parties[i] = new Party();
            }
            for (int i = 0; i < queues.length; i++) {
                queues[i] = new Queue();
            }
        }

        Queue queueOf(int from, int to) {
            return queues[from * PARTIES + to];
        }

        void takeParts(Row[] parts) {
            for (int p = 0; p < PARTIES; p++) {
                Action first = parts[p].first;
                Action.settle(first, null, 0);
                parties[p].first = first;
                parties[p].text.write(first);
            }
            clear(inputs);
            beginAgain();
        }

        void beginAgain() {
            System.arraycopy(inputs, 0, variables, 0, variables.length);
            for (Queue q : queues) {
                q.size = 0;
            }
            for (Party p : parties) {
                p.begin();
            }
            stepped = false;
        }

        /** A step of party p, if it can make one. */
        int takeTurn(int p) {
            Action a = parties[p].action;
            if (a == null) {
                return ENDED;
            }
            if (!goOn(p, a)) {
                return WAITS;
            }
            stepped = true;
            return DID;
        }

        /** False, with nothing changed, when the party waits. */
        private boolean goOn(int p, Action a) {
            Party party = parties[p];
            switch (a.kind) {
                case SET:
                    variables[indexOf(p, a.variable)] = valueFor(p, a);
                    party.action = a.behind;
                    return true;
                case SEND:
                    return send(p, a, valueFor(p, a), false);
                case TELL:
                    return send(p, a, a.label, true);
                case CHOOSE:
                    party.action = a.enter(valueFor(p, a) != 0 ? 0 : 1);
                    return true;
                case ROUND:
                    return goRound(p, a);
                default:
                    return receive(p, a);
            }
        }

        private int valueFor(int p, Action a) {
            return Expression.value(a.expression, variables, p);
        }

        private boolean send(int p, Action a, int value, boolean isLabel) {
            if (!enqueue(p, a.other, value, isLabel)) {
                return false;
            }
            parties[p].action = a.behind;
            return true;
        }

        private boolean enqueue(int from, int to, int value, boolean isLabel) {
            Queue q = queueOf(from, to);
            if (q.size >= room) {
                return false;
            }
            q.add(value, isLabel);
            return true;
        }

        private boolean goRound(int p, Action a) {
            Party party = parties[p];
            if (!party.asked) {
                party.asked = true;
                party.answer = valueFor(p, a) != 0 ? 1 : 0;
                party.toTell = a.ledFrom(0);
            } else if (enqueue(p, party.toTell, party.answer, true)) {
                party.toTell = a.ledFrom(party.toTell + 1);
            } else {
                return false;
            }
            if (party.toTell == NONE) {
                party.asked = false;
                party.action = party.answer != 0 ? a.enter(0) : a.behind;
            }
            return true;
        }

        /** TAKE, HEAR and FOLLOW. */
        private boolean receive(int p, Action a) {
            Queue q = queueOf(a.other, p);
            if (q.size == 0) {
                return false;
            }
            int value = q.valueAt(0);
            // No cut play tells a label without a case; were there one, waiting would harm least.
            if (a.kind == HEAR && !a.hasPart(value)) {
                return false;
            }
            q.removeFirst();
            Party party = parties[p];
            if (a.kind == TAKE) {
                variables[indexOf(p, a.variable)] = value;
                party.action = a.behind;
            } else if (a.kind == HEAR) {
                party.action = a.enter(value);
            } else {
                party.action = value != 0 ? a.enter(0) : a.behind;
            }
            return true;
        }
    }
}
