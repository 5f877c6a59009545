import java.util.ArrayDeque;
import java.util.ArrayList;
import java.util.Deque;
import java.util.List;
import java.util.Map;
import java.util.TreeMap;
import java.util.TreeSet;
import java.util.regex.Matcher;
import java.util.regex.Pattern;

/**
 * A second, plain reading of the document, to compare with: labels are really put in among the
 * statements, parts are made anew whenever they are asked for, and what a party has still to do is
 * a row from which the first action is taken.
 */
final class Oracle {

    private static final Pattern EXPRESSION = Pattern.compile("(\\w+)(?:([-+*/%<=])(\\w+))?");

    /** A statement; its kind is the sign by which it is known: one of : > ! ? @ */
    static final class Line {
        char kind;
        int p;
        int q = -1;
        int v;
        int d;
        String e = "";
        List<Line> r = new ArrayList<>();
        List<Line> s = new ArrayList<>();
        int place;
    }

    /** An action; its head is its text without the parts in it. */
    static final class Act {
        final int kind;
        final String head;
        final Line from;
        final Map<Integer, List<Act>> parts = new TreeMap<>();

        Act(int kind, String head, Line from) {
            this.kind = kind;
            this.head = head;
            this.from = from;
        }
    }

    int fault = -1;
    int who = -1;
    String thrown = "";
    int putIn = 0;
    int room = 4;
    boolean stepped = false;
    final List<List<Act>> parts = new ArrayList<>();
    final int[][] inputs = new int[6][4];
    final int[][] variables = new int[6][4];
    final int[][] wanted = new int[6][4];
    final List<List<Deque<int[]>>> queues = new ArrayList<>();
    private final List<Line> written;
    private final List<Deque<Act>> todo = new ArrayList<>();
    private final List<Deque<Integer>> toTell = new ArrayList<>();
    private final int[] answers = new int[6];
    private int statements;

    Oracle(List<Line> play, boolean labels) {
        written = play;
        List<Line> copy = copyOf(play);
        statements = countOf(play);
        look(copy, labels);
        if (thrown.isEmpty()) {
            for (int p = 0; p < 6; p++) {
                parts.add(part(p, copy));
            }
            reset();
        }
    }

    static List<Line> copyOf(List<Line> row) {
        List<Line> copy = new ArrayList<>();
        for (Line s : row) {
            Line c = new Line();
            c.kind = s.kind;
            c.p = s.p;
            c.q = s.q;
            c.v = s.v;
            c.d = s.d;
            c.e = s.e;
            c.place = s.place;
            c.r = copyOf(s.r);
            c.s = copyOf(s.s);
            copy.add(c);
        }
        return copy;
    }

    static int countOf(List<Line> row) {
        int n = 0;
        for (Line s : row) {
            n += 1 + countOf(s.r) + countOf(s.s);
        }
        return n;
    }

    /** Writes a row behind a text, and notes where each statement begins. */
    static void write(List<Line> row, StringBuilder text) {
        for (Line s : row) {
            s.place = text.length();
            text.append(letter(s.p));
            switch (s.kind) {
                case ':' -> text.append(variable(s.v)).append(':').append(s.e).append(';');
                case '>' -> text.append(s.e).append('>').append(letter(s.q)).append(variable(s.v)).append(';');
                case '!' -> text.append('!').append(s.d).append('>').append(letter(s.q)).append(';');
                default -> {
                    text.append(s.kind).append(s.e).append('{');
                    write(s.r, text);
                    text.append('}');
                    if (s.kind == '?') {
                        text.append('{');
                        write(s.s, text);
                        text.append('}');
                    }
                }
            }
        }
    }

    private static char letter(int p) {
        return (char) ('A' + p);
    }

    private static char variable(int v) {
        return (char) ('w' + v);
    }

    private void look(List<Line> row, boolean labels) {
        for (Line s : row) {
            look(s.r, labels);
            look(s.s, labels);
            if (!thrown.isEmpty()) {
                return;
            }
            if (s.kind == '?') {
                lookAtChoice(s, labels);
            }
        }
    }

    private void lookAtChoice(Line s, boolean labels) {
        List<Line> ones = new ArrayList<>();
        List<Line> noughts = new ArrayList<>();
        for (int q = 0; q < 6 && thrown.isEmpty(); q++) {
            if (q != s.p && join(part(q, s.r), part(q, s.s)) == null) {
                if (!labels) {
                    thrown = "IllegalStateException";
                    fault = s.place;
                    who = q;
                }
                ones.add(tell(s.p, q, 1));
                noughts.add(tell(s.p, q, 0));
            }
        }
        if (thrown.isEmpty() && statements + putIn + 2 * ones.size() > 80) {
            thrown = "UnsupportedOperationException";
            fault = s.place;
        }
        putIn += 2 * ones.size();
        s.r.addAll(0, ones);
        s.s.addAll(0, noughts);
    }

    private static Line tell(int p, int q, int d) {
        Line s = new Line();
        s.kind = '!';
        s.p = p;
        s.q = q;
        s.d = d;
        return s;
    }

    private static List<Act> part(int p, List<Line> row) {
        List<Act> part = new ArrayList<>();
        for (int i = 0; i < row.size(); i++) {
            Line s = row.get(i);
            if (s.kind == '!' && p == s.q) {
                Act hear = new Act(5, "" + letter(s.p), s);
                hear.parts.put(s.d, part(p, row.subList(i + 1, row.size())));
                part.add(hear);
                return part;
            }
            part.addAll(acts(p, s));
        }
        return part;
    }

    private static List<Act> acts(int p, Line s) {
        List<Act> acts = new ArrayList<>();
        if (s.kind == ':' && p == s.p) {
            acts.add(new Act(1, variable(s.v) + ":" + s.e + ";", s));
        } else if (s.kind == '>' && p == s.p) {
            acts.add(new Act(2, s.e + ">" + letter(s.q) + ";", s));
        } else if (s.kind == '>' && p == s.q) {
            acts.add(new Act(3, letter(s.p) + ">" + variable(s.v) + ";", s));
        } else if (s.kind == '!' && p == s.p) {
            acts.add(new Act(4, "!" + s.d + ">" + letter(s.q) + ";", s));
        } else if (s.kind == '@') {
            acts.addAll(actsOfRound(p, s));
        } else if (s.kind == '?' && p == s.p) {
            Act choice = new Act(6, "?" + s.e, s);
            choice.parts.put(0, part(p, s.r));
            choice.parts.put(1, part(p, s.s));
            acts.add(choice);
        } else if (s.kind == '?') {
            acts.addAll(join(part(p, s.r), part(p, s.s)));
        }
        return acts;
    }

    private static List<Act> actsOfRound(int p, Line s) {
        TreeSet<Integer> led = led(s);
        if (p == s.p) {
            StringBuilder head = new StringBuilder("@" + s.e);
            led.forEach(q -> head.append(letter(q)));
            Act round = new Act(7, head.toString(), s);
            round.parts.put(0, part(p, s.r));
            return List.of(round);
        }
        if (led.contains(p)) {
            Act follow = new Act(8, letter(s.p) + "@", s);
            follow.parts.put(0, part(p, s.r));
            return List.of(follow);
        }
        return List.of();
    }

    private static TreeSet<Integer> led(Line s) {
        TreeSet<Integer> led = new TreeSet<>();
        gather(s.r, led);
        led.remove(s.p);
        return led;
    }

    private static void gather(List<Line> row, TreeSet<Integer> parties) {
        for (Line s : row) {
            parties.add(s.p);
            if (s.q >= 0) {
                parties.add(s.q);
            }
            gather(s.r, parties);
            gather(s.s, parties);
        }
    }

    /** The join, or null; no two kinds have a head in common, so equal heads are all that is needed. */
    private static List<Act> join(List<Act> one, List<Act> two) {
        if (one.size() != two.size()) {
            return null;
        }
        List<Act> joined = new ArrayList<>();
        for (int i = 0; i < one.size(); i++) {
            Act a = one.get(i);
            Act b = two.get(i);
            if (!a.head.equals(b.head)) {
                return null;
            }
            Act c = new Act(a.kind, a.head, a.from);
            c.parts.putAll(a.parts);
            for (Map.Entry<Integer, List<Act>> part : b.parts.entrySet()) {
                List<Act> both = part.getValue();
                if (a.parts.containsKey(part.getKey())) {
                    both = join(a.parts.get(part.getKey()), both);
                }
                if (both == null) {
                    return null;
                }
                c.parts.put(part.getKey(), both);
            }
            joined.add(c);
        }
        return joined;
    }

    String text(int p) {
        return text(parts.get(p));
    }

    private static String text(List<Act> part) {
        StringBuilder text = new StringBuilder();
        for (Act a : part) {
            text.append(a.head);
            a.parts.forEach((d, inner) -> text.append(a.kind == 5 ? "" + d : "").append('{').append(text(inner))
                    .append('}'));
        }
        return text.toString();
    }

    void reset() {
        stepped = false;
        todo.clear();
        toTell.clear();
        queues.clear();
        for (int p = 0; p < 6; p++) {
            variables[p] = inputs[p].clone();
            todo.add(new ArrayDeque<>(parts.get(p)));
            toTell.add(new ArrayDeque<>());
            queues.add(new ArrayList<>());
            for (int q = 0; q < 6; q++) {
                queues.get(p).add(new ArrayDeque<>());
            }
        }
    }

    int at(int p) {
        return todo.get(p).isEmpty() ? 0 : todo.get(p).peekFirst().kind;
    }

    int step(int p) {
        Deque<Act> row = todo.get(p);
        if (row.isEmpty()) {
            return 2;
        }
        Act a = row.removeFirst();
        if (!act(p, a, row)) {
            row.addFirst(a);
            return 0;
        }
        stepped = true;
        return 1;
    }

    /** Whether the action, taken from the row, could be done; if not, nothing is changed. */
    private boolean act(int p, Act a, Deque<Act> row) {
        Line s = a.from;
        switch (a.kind) {
            case 1:
                variables[p][s.v] = value(s.e, variables[p]);
                return true;
            case 2:
                return send(p, s.q, value(s.e, variables[p]), 0);
            case 4:
                return send(p, s.q, s.d, 1);
            case 6:
                push(row, a.parts.get(value(s.e, variables[p]) != 0 ? 0 : 1));
                return true;
            case 7:
                return round(p, a, row);
            default:
                return receive(p, a, row);
        }
    }

    private boolean round(int p, Act a, Deque<Act> row) {
        Deque<Integer> tells = toTell.get(p);
        if (tells.isEmpty()) {
            answers[p] = value(a.from.e, variables[p]) != 0 ? 1 : 0;
            tells.addAll(led(a.from));
        } else if (send(p, tells.peekFirst(), answers[p], 1)) {
            tells.removeFirst();
        } else {
            return false;
        }
        if (!tells.isEmpty() || answers[p] == 1) {
            row.addFirst(a);
        }
        if (tells.isEmpty() && answers[p] == 1) {
            push(row, a.parts.get(0));
        }
        return true;
    }

    private boolean receive(int p, Act a, Deque<Act> row) {
        Deque<int[]> queue = queues.get(a.from.p).get(p);
        if (queue.isEmpty()) {
            return false;
        }
        int[] message = queue.removeFirst();
        if (message[1] != (a.kind == 3 ? 0 : 1)) {
            throw new AssertionError("a label was taken, or a value heard");
        }
        if (a.kind == 3) {
            variables[p][a.from.v] = message[0];
        } else if (a.kind == 5) {
            if (!a.parts.containsKey(message[0])) {
                throw new AssertionError("a label without a case");
            }
            push(row, a.parts.get(message[0]));
        } else if (message[0] == 1) {
            row.addFirst(a);
            push(row, a.parts.get(0));
        }
        return true;
    }

    private boolean send(int from, int to, int value, int label) {
        Deque<int[]> queue = queues.get(from).get(to);
        if (queue.size() >= room) {
            return false;
        }
        queue.addLast(new int[] {value, label});
        return true;
    }

    private static <T> void push(Deque<T> row, List<T> first) {
        for (int i = first.size() - 1; i >= 0; i--) {
            row.addFirst(first.get(i));
        }
    }

    String queue(int from, int to) {
        StringBuilder all = new StringBuilder("[");
        for (int[] message : queues.get(from).get(to)) {
            all.append(message[1] == 1 ? "!" : " ").append(message[0]);
        }
        return all.append(']').toString();
    }

    int whole(int n) {
        for (int p = 0; p < 6; p++) {
            wanted[p] = inputs[p].clone();
        }
        Deque<Line> row = new ArrayDeque<>(written);
        int done = 0;
        while (!row.isEmpty() && done < n) {
            Line s = row.removeFirst();
            done++;
            int value = s.kind == '!' ? 0 : value(s.e, wanted[s.p]);
            switch (s.kind) {
                case ':' -> wanted[s.p][s.v] = value;
                case '>' -> wanted[s.q][s.v] = value;
                case '?' -> push(row, value != 0 ? s.r : s.s);
                case '@' -> {
                    if (value != 0) {
                        row.addFirst(s);
                        push(row, s.r);
                    }
                }
                default -> { }
            }
        }
        return row.isEmpty() ? done : -1;
    }

    static int value(String e, int[] own) {
        Matcher m = EXPRESSION.matcher(e);
        if (!m.matches()) {
            throw new AssertionError(e);
        }
        int a = term(m.group(1), own);
        if (m.group(2) == null) {
            return a;
        }
        int b = term(m.group(3), own);
        return switch (m.group(2)) {
            case "+" -> (int) ((long) a + b);
            case "-" -> (int) ((long) a - b);
            case "*" -> (int) ((long) a * b);
            case "/" -> b == 0 ? 0 : (int) ((long) a / b);
            case "%" -> b == 0 ? 0 : (int) ((long) a % b);
            case "<" -> a < b ? 1 : 0;
            default -> a == b ? 1 : 0;
        };
    }

    private static int term(String t, int[] own) {
        return "wxyz".contains(t) ? own["wxyz".indexOf(t)] : Integer.parseInt(t);
    }
}
