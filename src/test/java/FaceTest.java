import java.lang.reflect.Constructor;
import java.lang.reflect.Field;
import java.lang.reflect.Method;
import java.lang.reflect.Modifier;
import java.util.Set;
import java.util.TreeSet;
import java.util.regex.Matcher;
import java.util.regex.Pattern;

/** The public face is the document's and no more. */
public final class FaceTest {
    private static final String METHODS = "int letter(int) int blank() int fault() int text() int line(int,int,int) "
            + "int step(int,int) int letters(int,int) int like(int,int) int rack(int,int) int racked(int,int) "
            + "int put(int,int,int) int take(int,int) int swap(int,int,int) int turn() int cost(int) int best(int) "
            + "long all() int drawn(int,int,int) int image() int restore() int count(int) long digest() ";

    public static void main(String[] args) {
        Check.due("NONE", -1, LineScript.NONE);
        Check.due("UNKNOWN", -101, LineScript.UNKNOWN);
        Check.due("OUTSIDE", -102, LineScript.OUTSIDE);
        Check.due("STATE", -103, LineScript.STATE);
        Check.due("FULL", -104, LineScript.FULL);
        Check.dueText("the class", "public final", Modifier.toString(LineScript.class.getModifiers()));
        Check.dueText("the methods", wantedMethods().toString(), methods().toString());
        Check.dueText("the constructors", "[public LineScript()]", constructors().toString());
        Check.dueText("the fields", "[FULL, NONE, OUTSIDE, STATE, UNKNOWN]", fields().toString());
        Check.end();
    }

    private static Set<String> wantedMethods() {
        Set<String> wanted = new TreeSet<>();
        Matcher each = Pattern.compile("(int|long) \\w+\\([^)]*\\)").matcher(METHODS);
        while (each.find()) {
            wanted.add("public " + each.group());
        }
        return wanted;
    }

    private static Set<String> methods() {
        Set<String> found = new TreeSet<>();
        for (Method method : LineScript.class.getDeclaredMethods()) {
            if (!Modifier.isPrivate(method.getModifiers())) {
                found.add(method.toString().replace("LineScript.", ""));
            }
        }
        return found;
    }

    private static Set<String> constructors() {
        Set<String> found = new TreeSet<>();
        for (Constructor<?> constructor : LineScript.class.getDeclaredConstructors()) {
            found.add(constructor.toString());
        }
        return found;
    }

    private static Set<String> fields() {
        Set<String> found = new TreeSet<>();
        for (Field field : LineScript.class.getDeclaredFields()) {
            if (!Modifier.isPrivate(field.getModifiers())) {
                found.add(field.getName());
            }
        }
        return found;
    }
}
