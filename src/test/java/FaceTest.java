import java.lang.reflect.Constructor;
import java.lang.reflect.Field;
import java.lang.reflect.Method;
import java.lang.reflect.Modifier;
import java.util.ArrayList;
import java.util.Collections;
import java.util.List;

/** The public face: the constants, the constructor and the methods, with what they throw, and no more. */
public final class FaceTest {

    private static final String METHODS = String.join("\n",
            "int at(int) throws IndexOutOfBoundsException, IllegalStateException",
            "int fault() throws ",
            "int input(int, int, int) throws IndexOutOfBoundsException, IllegalStateException",
            "boolean label(int, int, int) throws IndexOutOfBoundsException, NoSuchElementException",
            "int length(int) throws IndexOutOfBoundsException, IllegalStateException",
            "int letter(int, int) throws IndexOutOfBoundsException, IllegalStateException, NoSuchElementException",
            "int load(boolean) throws IllegalArgumentException, IllegalStateException, UnsupportedOperationException",
            "int message(int, int, int) throws IndexOutOfBoundsException, NoSuchElementException",
            "int queue(int, int) throws IndexOutOfBoundsException",
            "void reset() throws IllegalStateException",
            "void room(int) throws IllegalArgumentException, IllegalStateException",
            "int run(int, int) throws IndexOutOfBoundsException, IllegalArgumentException, IllegalStateException",
            "int step(int) throws IndexOutOfBoundsException, IllegalStateException",
            "boolean type(long) throws ",
            "int variable(int, int) throws IndexOutOfBoundsException",
            "int wanted(int, int) throws IndexOutOfBoundsException",
            "int who() throws ",
            "int whole(int) throws IllegalArgumentException, IllegalStateException");

    public static void main(String[] args) {
        Check.due("NONE", -1, PlayCutter.NONE);
        Check.due("WAITS", 0, PlayCutter.WAITS);
        Check.due("DID", 1, PlayCutter.DID);
        Check.due("ENDED", 2, PlayCutter.ENDED);
        Check.due("public final", Modifier.PUBLIC | Modifier.FINAL, PlayCutter.class.getModifiers());
        Check.due("methods", sorted(METHODS), sorted(methods()));
        Check.due("constructors", "PlayCutter() public", constructors());
        Check.due("fields", "DID ENDED NONE WAITS", fields());
        nestedClassesAreHidden();
        Check.end();
    }

    private static String methods() {
        List<String> rows = new ArrayList<>();
        for (Method m : PlayCutter.class.getDeclaredMethods()) {
            if (!Modifier.isPrivate(m.getModifiers())) {
                rows.add(m.getReturnType() + " " + m.getName() + "(" + names(m.getParameterTypes()) + ") throws "
                        + names(m.getExceptionTypes()));
                Check.due(m.getName() + " is public, of objects", Modifier.PUBLIC, m.getModifiers());
            }
        }
        return String.join("\n", rows);
    }

    private static String names(Class<?>[] types) {
        List<String> names = new ArrayList<>();
        for (Class<?> type : types) {
            names.add(type.getSimpleName());
        }
        return String.join(", ", names);
    }

    private static String sorted(String rows) {
        List<String> all = new ArrayList<>(List.of(rows.split("\n")));
        Collections.sort(all);
        return String.join("\n", all);
    }

    private static String constructors() {
        StringBuilder all = new StringBuilder();
        for (Constructor<?> c : PlayCutter.class.getDeclaredConstructors()) {
            all.append(c.getName()).append('(').append(names(c.getParameterTypes())).append(") ");
            all.append(Modifier.toString(c.getModifiers()));
        }
        return all.toString();
    }

    private static String fields() {
        List<String> names = new ArrayList<>();
        for (Field f : PlayCutter.class.getDeclaredFields()) {
            if (!Modifier.isPrivate(f.getModifiers())) {
                names.add(f.getName());
                Check.due(f.getName() + " is a constant", Modifier.PUBLIC | Modifier.STATIC | Modifier.FINAL,
                        f.getModifiers());
            }
        }
        Collections.sort(names);
        return String.join(" ", names);
    }

    private static void nestedClassesAreHidden() {
        for (Class<?> c : PlayCutter.class.getDeclaredClasses()) {
            int m = c.getModifiers();
            Check.due(c + " is hidden", false, Modifier.isPublic(m) || Modifier.isProtected(m));
            Check.due(c + " is static", true, Modifier.isStatic(m));
        }
    }
}
