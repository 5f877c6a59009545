import java.util.ArrayList;
import java.util.List;
import java.util.regex.Matcher;
import java.util.regex.Pattern;

/**
 * Promise 4 for random texts, by the fault's own definition: a beginning is that of a play if one of
 * the ways to go on, with the open blocks closed behind it, makes it a play.
 */
public final class FaultTest {

    private static final int TEXTS = 600;
    private static final String TERM = "(?:[w-z]|[0-9]{1,3})";
    private static final String E = TERM + "(?:[-+*/%<=]" + TERM + ")?";
    /** A statement whose blocks hold nothing but \1, which stands for a statement that was seen. */
    private static final Pattern STATEMENT = Pattern.compile("[A-F][w-z]:" + E + ";"
            + "|([A-F])" + E + ">(?!\\1)[A-F][w-z];"
            + "|([A-F])![0-9]>(?!\\2)[A-F];"
            + "|[A-F]\\?" + E + "\\{\u0001*\\}\\{\u0001*\\}"
            + "|[A-F]@" + E + "\\{\u0001*\\}");
    private static final String[] WAYS_ON = {"", "Aw:1;", "w:1;", ":1;", "1;", ";", "1>Aw;", "1>Bw;", ">Aw;", ">Bw;",
        "Aw;", "Bw;", "w;", "1>A;", "1>B;", ">A;", ">B;", "A;", "B;", "1{}{}", "{}{}", "{}", "1{}"};
    private static final String LETTERS = "ABFGwzv059:;>!?@{}+=<-#";

    public static void main(String[] args) {
        RandomPlays random = new RandomPlays(4);
        int texts = args.length > 0 ? Integer.parseInt(args[0]) : TEXTS;
        for (int i = 0; i < texts && Check.wrongSoFar() < 20; i++) {
            StringBuilder play = new StringBuilder();
            Oracle.write(random.next(), play);
            Check.due("a play is one: " + play, -1, faultOf(play.toString()));
            dueFault(spoilt(play.toString(), random));
        }
        Check.end();
    }

    private static String spoilt(String play, RandomPlays random) {
        int i = random.below(play.length());
        char c = LETTERS.charAt(random.below(LETTERS.length()));
        String behind = play.substring(i + random.below(2));
        String text = play.substring(0, i) + (random.below(3) == 0 ? "" : c) + behind;
        return text.substring(0, Math.min(200, random.below(4) == 0 ? i : text.length()));
    }

    private static void dueFault(String text) {
        PlayCutter x = new PlayCutter();
        Check.type(x, text);
        int due = faultOf(text);
        try {
            x.load(true);
        } catch (IllegalArgumentException e) {
            Check.due("fault of " + text, due, x.fault());
            return;
        } catch (UnsupportedOperationException e) {
            // It is a play, then.
        }
        Check.due("fault of " + text, due, PlayCutter.NONE);
    }

    private static int faultOf(String text) {
        if (isPlay(text)) {
            return PlayCutter.NONE;
        }
        int begins = 0;
        int not = text.length() + 1;
        while (begins + 1 < not) {
            int middle = (begins + not) / 2;
            if (beginsPlay(text.substring(0, middle))) {
                begins = middle;
            } else {
                not = middle;
            }
        }
        return begins;
    }

    private static boolean beginsPlay(String text) {
        for (String closing : closings(nesting(text, false))) {
            for (String way : WAYS_ON) {
                if (isPlay(text + way + closing)) {
                    return true;
                }
            }
        }
        return false;
    }

    /** Each open block may be the first of a choice, or not. */
    private static List<String> closings(int open) {
        List<String> all = new ArrayList<>();
        if (open >= 0 && open <= 6) {
            for (int bits = 0; bits < 1 << open; bits++) {
                StringBuilder closing = new StringBuilder();
                for (int i = 0; i < open; i++) {
                    closing.append((bits >> i & 1) == 0 ? "}" : "}{}");
                }
                all.add(closing.toString());
            }
        }
        return all;
    }

    /** How many blocks are open at the end, or at most anywhere. */
    private static int nesting(String text, boolean most) {
        int open = 0;
        int max = 0;
        for (char c : text.toCharArray()) {
            open += c == '{' ? 1 : c == '}' ? -1 : 0;
            max = Math.max(max, open);
        }
        return most ? max : open;
    }

    private static boolean isPlay(String text) {
        int statements = 0;
        String rest = text;
        boolean more = true;
        while (more) {
            Matcher m = STATEMENT.matcher(rest);
            int found = 0;
            while (m.find()) {
                found++;
            }
            rest = m.replaceAll("\u0001");
            statements += found;
            more = found > 0;
        }
        return rest.matches("\u0001+") && statements <= 40 && nesting(text, true) <= 6;
    }
}
