import java.io.IOException;
import java.nio.file.Files;
import java.nio.file.Path;
import java.util.function.Supplier;

/** That README.md's example answers what it says there. */
public final class ReadmeTest {

    private static final String[] ANSWERS = {"WAITS", "DID", "ENDED"};

    private static String readme;

    public static void main(String[] args) throws IOException {
        readme = Files.readString(Path.of("README.md"));
        theExample();
        theExampleWithoutLabels();
        everyCallIsTold();
        Check.end();
    }

    /** Asks that README.md has this call, that it says this answer there, and that it is the answer. */
    private static void dueThere(String call, String answer, Supplier<String> got) {
        int place = readme.indexOf(call + ";");
        Check.due(call + " is in README.md", true, place >= 0);
        int comment = readme.indexOf("// ", place);
        String said = comment < 0 ? "" : readme.substring(comment + 3);
        Check.due(call + " has its answer in README.md", true, said.startsWith(answer + ":"));
        Check.due(call, answer, got.get());
    }

    private static void theExample() {
        String play = "A?w{Bx:1;}{Bx:2;}";
        PlayCutter x = new PlayCutter();
        Check.due("the play is in README.md", true, readme.contains("type(x, \"" + play + "\");"));
        Check.type(x, play);
        dueThere("x.load(true)", "2", () -> "" + x.load(true));
        String parts = "A's part is " + Check.part(x, 0) + " and B's is " + Check.part(x, 1);
        Check.due("the parts are in README.md", true, readme.contains(parts));
        Check.due("the input is in README.md", true, readme.contains("x.input(0, 0, 5);"));
        Check.due("input(0, 0, 5)", 0, x.input(0, 0, 5));
        dueThere("x.step(1)", "WAITS", () -> ANSWERS[x.step(1)]);
        dueThere("x.run(0, 18)", "4", () -> "" + x.run(0, 18));
        dueThere("x.variable(1, 1)", "1", () -> "" + x.variable(1, 1));
        dueThere("x.whole(100)", "2", () -> "" + x.whole(100));
        dueThere("x.wanted(1, 1)", "1", () -> "" + x.wanted(1, 1));
    }

    private static void theExampleWithoutLabels() {
        Check.dueNoCut("A?w{Bx:1;}{Bx:2;}", false, Check.STATE, 0, 1);
        Check.due("README.md tells it", true, readme.contains("the place of the choice (0) and `who()`"));
    }

    private static void everyCallIsTold() {
        for (java.lang.reflect.Method m : PlayCutter.class.getMethods()) {
            if (m.getDeclaringClass() == PlayCutter.class) {
                Check.due(m.getName() + " is told in README.md", true, readme.contains("`" + m.getName() + "("));
            }
        }
    }
}
