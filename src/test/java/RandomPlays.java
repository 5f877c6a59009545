import java.util.ArrayList;
import java.util.List;
import java.util.Random;

/** Random plays, the same ones every time; many of their choices are between blocks that are much alike. */
final class RandomPlays {

    private static final String OPERATORS = "+-*/%<=";
    private static final String[] NUMBERS = {"0", "1", "2", "3", "7", "01", "10", "999", "000"};

    private final Random random;
    private int left;
    private int parties;

    RandomPlays(long seed) {
        random = new Random(seed);
    }

    int below(int n) {
        return random.nextInt(n);
    }

    /** A play of at most 40 statements and 200 letters. */
    List<Oracle.Line> next() {
        while (true) {
            left = 1 + below(24);
            parties = 2 + below(5);
            List<Oracle.Line> play = row(0, true);
            StringBuilder text = new StringBuilder();
            Oracle.write(play, text);
            if (!play.isEmpty() && Oracle.countOf(play) <= 40 && text.length() <= 200) {
                return play;
            }
        }
    }

    private List<Oracle.Line> row(int depth, boolean outermost) {
        List<Oracle.Line> row = new ArrayList<>();
        int n = outermost ? left : below(5);
        for (int i = 0; i < n && left > 0; i++) {
            left--;
            addLine(row, depth);
        }
        return row;
    }

    private void addLine(List<Oracle.Line> row, int depth) {
        Oracle.Line s = new Oracle.Line();
        s.p = below(parties);
        s.v = below(4);
        s.d = below(3);
        s.e = expression();
        s.kind = "::>>>!!???@@".charAt(below(12));
        if (depth == 6 && (s.kind == '?' || s.kind == '@')) {
            s.kind = '>';
        }
        if (s.kind == '>' || s.kind == '!') {
            s.q = (s.p + 1 + below(parties - 1)) % parties;
        }
        row.add(s);
        if (s.kind == '?') {
            s.r = row(depth + 1, false);
            s.s = below(3) == 0 ? row(depth + 1, false) : alike(s.r);
        }
        if (s.kind == '@') {
            s.r = row(depth + 1, false);
            makeEnd(s);
        }
    }

    /** Most rounds count down, so that many plays end. */
    private void makeEnd(Oracle.Line s) {
        if (below(8) == 0) {
            return;
        }
        Oracle.Line down = new Oracle.Line();
        down.kind = ':';
        down.p = s.p;
        down.v = s.v;
        String variable = "" + (char) ('w' + s.v);
        s.e = below(2) == 0 ? variable : "0<" + variable;
        down.e = variable + (below(2) == 0 ? "-1" : "/2");
        s.r.add(below(s.r.size() + 1), down);
    }

    private List<Oracle.Line> alike(List<Oracle.Line> row) {
        List<Oracle.Line> copy = Oracle.copyOf(row);
        changeSome(copy);
        return copy;
    }

    private void changeSome(List<Oracle.Line> row) {
        for (Oracle.Line s : row) {
            left--;
            if (s.kind == '!' && below(2) == 0) {
                s.d = below(3);
            } else if (below(12) == 0) {
                s.e = expression();
            } else if (below(16) == 0) {
                s.v = below(4);
            }
            changeSome(s.r);
            changeSome(s.s);
        }
        if (!row.isEmpty() && below(12) == 0) {
            row.remove(below(row.size()));
        }
    }

    private String expression() {
        return below(2) == 0 ? term() : term() + OPERATORS.charAt(below(7)) + term();
    }

    private String term() {
        return below(3) == 0 ? NUMBERS[below(NUMBERS.length)] : "" + "wxyz".charAt(below(4));
    }
}
