import java.io.IOException;
import java.lang.reflect.Field;
import java.lang.reflect.Method;
import java.lang.reflect.Modifier;
import java.nio.file.Files;
import java.nio.file.Path;
import java.util.List;
import java.util.regex.Matcher;
import java.util.regex.Pattern;

/** The source keeps to ../shared/LANGUAGE.md, as far as the compiled class or a search of the source can tell. */
public final class LanguageTest {
    private static final int MOST_CLASSES = 12, MOST_FIELDS = 20, MOST_PARAMETERS = 7, MOST_METHOD_LINES = 60;
    private static final String[] FORBIDDEN = {"\\bthrows?\\b", "\\btry\\b", "\\bcatch\\b", "\\bsynchronized\\b",
        "\\bassert\\b", "\\bimport\\b", "\\bpackage\\b", "->", "::", "@", "\\bjava\\.", "static\\s*\\{",
        "\\bpublic\\s+static\\s+(?!final)", "\\b(Float|Double|Character|Thread|Objects?)\\b",
        "\\bSystem\\.(?!arraycopy)", "\\b(Integer|Long)\\.M", "Exact\\b",
        "\\bMath\\.(random|sqrt|pow|floor|ceil|round|rint|log|exp)\\b",
        "\\b(equals|hashCode|toString|getClass)\\("};

    public static void main(String[] args) throws IOException {
        String source = Files.readString(Path.of("src/main/java/LineScript.java"));
        String code = source.replaceAll("(?s)/\\*.*?\\*/", "").replaceAll("//[^\n]*", "");
        Class<?>[] classes = LineScript.class.getNestMembers();
        Check.sentence("LANGUAGE 11, classes");
        atMost("classes", MOST_CLASSES, classes.length);
        for (Class<?> each : classes) {
            keptTo(each);
        }
        forbidden(code);
        lengths(code);
        objectsOfCalls(code);
        Check.end();
    }

    private static void atMost(String what, int most, int there) {
        Check.dueText(what, "at most " + most, there <= most ? "at most " + most : String.valueOf(there));
    }

    private static void keptTo(Class<?> each) {
        String name = each.getSimpleName();
        Check.sentence("LANGUAGE 2, classes inside are static ones with a name of their own");
        boolean outer = each == LineScript.class;
        boolean member = each.isMemberClass() && Modifier.isStatic(each.getModifiers());
        Check.dueText(each.getName(), "as told", outer || member ? "as told" : "another");
        Check.sentence("LANGUAGE 11, fields and parameters");
        int fields = 0;
        for (Field field : each.getDeclaredFields()) {
            fields += Modifier.isStatic(field.getModifiers()) ? 0 : 1;
            kindOfField(name, field);
        }
        atMost("fields of " + name, MOST_FIELDS, fields);
        for (Method method : each.getDeclaredMethods()) {
            atMost("parameters of " + name + "." + method.getName(), MOST_PARAMETERS, method.getParameterCount());
            boolean publicName = !Modifier.isPublic(method.getModifiers()) && isOfFace(method.getName());
            Check.dueText("a private method by a public name", "", publicName ? method.getName() : "");
        }
    }

    private static boolean isOfFace(String name) {
        for (Method method : LineScript.class.getMethods()) {
            if (method.getDeclaringClass() == LineScript.class && method.getName().equals(name)) {
                return true;
            }
        }
        return false;
    }

    private static void kindOfField(String owner, Field field) {
        boolean isStatic = Modifier.isStatic(field.getModifiers());
        Class<?> part = field.getType();
        int dimensions = 0;
        while (part.isArray()) {
            part = part.getComponentType();
            dimensions++;
        }
        boolean number = part.isPrimitive();
        boolean own = List.of(LineScript.class.getNestMembers()).contains(part);
        boolean fine = isStatic
                ? Modifier.isFinal(field.getModifiers()) && number && dimensions <= 1
                : number && dimensions <= 2 || own && dimensions <= 1;
        Check.dueText("LANGUAGE 3 and 5, " + owner + "." + field.getName(), "fine", fine ? "fine" : field.toString());
    }

    private static void forbidden(String code) {
        Check.sentence("LANGUAGE 4, 6 and 13");
        for (String rule : FORBIDDEN) {
            Matcher matcher = Pattern.compile(rule).matcher(code);
            Check.dueText("what " + rule + " finds", "", matcher.find() ? matcher.group() : "");
        }
    }

    private static void lengths(String code) {
        Check.sentence("LANGUAGE 11, methods stay short");
        Pattern head = Pattern.compile("( +)(public|private) [^;=]*\\b(\\w+)\\([^;]*");
        String method = "";
        String end = "";
        int first = 0;
        int found = 0;
        List<String> lines = code.lines().toList();
        for (int line = 0; line < lines.size(); line++) {
            Matcher begins = head.matcher(lines.get(line));
            if (begins.matches()) {
                method = begins.group(3);
                end = begins.group(1) + "}";
                first = line;
                found++;
            } else if (lines.get(line).equals(end)) {
                atMost("lines of " + method, MOST_METHOD_LINES, line - first + 1);
                end = "";
            }
        }
        int compiled = 0;
        for (Class<?> each : LineScript.class.getNestMembers()) {
            compiled += each.getDeclaredMethods().length;
        }
        // The one constructor that is written out has such a head, too.
        Check.due("methods that were measured", compiled + 1, found);
    }

    /** All calls of a run live in one room, so objects and arrays are made with the object alone. */
    private static void objectsOfCalls(String code) {
        Check.sentence("LANGUAGE 12, what a run makes");
        code.lines().filter(line -> line.matches(".*\\bnew\\b.*")).forEach(line -> Check.dueText("a line with new",
                "", line.matches(" +private final [\\w\\[\\]]+ \\w+ = new [^{]*;") ? "" : line.strip()));
    }
}
