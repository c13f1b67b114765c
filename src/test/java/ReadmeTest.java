import java.io.IOException;
import java.lang.reflect.Method;
import java.lang.reflect.Modifier;
import java.net.URL;
import java.net.URLClassLoader;
import java.nio.file.Files;
import java.nio.file.Path;
import java.util.ArrayList;
import java.util.List;
import java.util.Set;
import java.util.TreeSet;
import java.util.regex.Matcher;
import java.util.regex.Pattern;
import java.util.stream.Stream;
import javax.tools.JavaCompiler;
import javax.tools.ToolProvider;

/** What README.md shows holds: its calls are compiled and made as they stand there, each with its answer. */
public final class ReadmeTest {
    private static final Pattern BLOCK = Pattern.compile("(?s)```java\n(.*?)```");
    private static final Pattern CALL = Pattern.compile("(.*\\bscript\\.(\\w+)\\(.*);\\s*// (.*)");
    private static final Pattern ANSWER = Pattern.compile("(NONE|UNKNOWN|OUTSIDE|STATE|FULL|-?\\d+(\\.\\d+)?)\\b.*");
    private static final Pattern TYPING = Pattern.compile("for \\(char letter : \"(.*)\"\\.toCharArray\\(\\)\\) \\{");
    private static final String[] KINDS = {"0 kept", "1 dropped", "2 added", "3 changed", "4 mended"};

    private static final List<String> CALLS = new ArrayList<>();
    private static final List<String> WANTED = new ArrayList<>();
    private static final Set<String> SHOWN = new TreeSet<>();

    public static void main(String[] args) throws Exception {
        String page = Files.readString(Path.of("README.md"));
        StringBuilder code = new StringBuilder();
        Matcher block = BLOCK.matcher(page);
        while (block.find()) {
            block.group(1).lines().forEach(line -> code.append(toRun(line)).append('\n'));
        }
        Check.dueText("the calls that are shown", face().toString(), SHOWN.toString());
        constants(page);
        table(page);
        tests(page);
        answers(code.toString());
        Check.end();
    }

    /** A call with its answer becomes code that tells what it answers; the rest is what has to be there to call. */
    private static String toRun(String line) {
        Matcher call = CALL.matcher(line);
        if (!call.matches()) {
            boolean mayStand = line.isBlank() || line.equals("}") || line.equals("    script.letter(letter);")
                    || line.equals("LineScript script = new LineScript();") || TYPING.matcher(line).matches();
            Check.dueText("a line without an answer", "", mayStand ? "" : line);
            return line;
        }
        Matcher answer = ANSWER.matcher(call.group(3));
        CALLS.add(call.group(1));
        WANTED.add(answer.matches() ? answer.group(1) : "no answer");
        SHOWN.add(call.group(2));
        return "answers.add(String.valueOf(" + call.group(1) + "));";
    }

    private static Set<String> face() {
        Set<String> names = new TreeSet<>();
        for (Method method : LineScript.class.getDeclaredMethods()) {
            if (Modifier.isPublic(method.getModifiers())) {
                names.add(method.getName());
            }
        }
        return names;
    }

    private static void answers(String code) throws Exception {
        List<?> got = answersOf(code);
        Check.due("how many calls were made", CALLS.size(), got.size());
        for (int call = 0; call < got.size(); call++) {
            Check.dueText(CALLS.get(call), numberOf(WANTED.get(call)), String.valueOf(got.get(call)));
        }
    }

    private static String numberOf(String wanted) throws Exception {
        boolean isName = wanted.matches("[A-Z]+");
        return isName ? String.valueOf(LineScript.class.getField(wanted).getInt(null)) : wanted;
    }

    private static List<?> answersOf(String code) throws Exception {
        JavaCompiler compiler = ToolProvider.getSystemJavaCompiler();
        if (compiler == null) {
            return List.of();
        }
        Path folder = Files.createTempDirectory("readme");
        Path source = folder.resolve("Shown.java");
        try {
            Files.writeString(source, "public final class Shown {\n"
                    + "public static java.util.List<String> answers() {\n"
                    + "java.util.List<String> answers = new java.util.ArrayList<>();\n"
                    + code + "return answers;\n}\n}\n");
            int failed = compiler.run(null, null, null, "-cp", System.getProperty("java.class.path"),
                    "-d", folder.toString(), source.toString());
            return failed == 0 ? answersOf(folder) : List.of();
        } finally {
            Files.deleteIfExists(source);
            Files.deleteIfExists(folder.resolve("Shown.class"));
            Files.deleteIfExists(folder);
        }
    }

    private static List<?> answersOf(Path folder) throws Exception {
        try (URLClassLoader loader = new URLClassLoader(new URL[] {folder.toUri().toURL()})) {
            return (List<?>) loader.loadClass("Shown").getMethod("answers").invoke(null);
        }
    }

    /** Each constant stands there with its number, as `NAME` (number. */
    private static void constants(String page) throws Exception {
        for (String name : new String[] {"NONE", "UNKNOWN", "OUTSIDE", "STATE", "FULL"}) {
            Matcher told = Pattern.compile("`" + name + "` \\((-\\d+)").matcher(page);
            Check.dueText(name, numberOf(name), told.find() ? told.group(1) : "not told");
        }
    }

    /** The table has the steps of the text that is typed last. */
    private static void table(String page) {
        String text = "";
        Matcher typing = TYPING.matcher(page);
        while (typing.find()) {
            text = typing.group(1);
        }
        LineScript script = Given.read(text);
        int step = 0;
        Matcher row = Pattern.compile("(?m)^\\| \\d.*$").matcher(page);
        while (row.find()) {
            String told = row.group().replaceAll(" *\\| *", "|");
            Check.dueText("row " + step + " of the table", wantedRow(script, step), told);
            step++;
        }
        Check.due("rows of the table", script.count(2), step);
    }

    private static String wantedRow(LineScript script, int step) {
        if (step >= script.count(2)) {
            return "none";
        }
        int gap = script.step(step, 4);
        return "|" + step + "|" + KINDS[script.step(step, 0)] + "|" + shownLine(script, 0, script.step(step, 1))
                + "|" + shownLine(script, 1, script.step(step, 2)) + "|" + (gap == LineScript.NONE ? "" : gap) + "|";
    }

    private static String shownLine(LineScript script, int side, int line) {
        boolean none = line == LineScript.NONE;
        return none ? "" : line + " `" + Given.side(script, side).split(",")[line] + "`";
    }

    private static void tests(String page) throws IOException {
        Set<String> there = new TreeSet<>();
        try (Stream<Path> files = Files.list(Path.of("src/test/java"))) {
            files.map(file -> file.getFileName().toString().replace(".java", ""))
                    .filter(name -> name.endsWith("Test")).forEach(there::add);
        }
        Set<String> named = new TreeSet<>();
        Matcher name = Pattern.compile("`(\\w+Test)`").matcher(page);
        while (name.find()) {
            named.add(name.group(1));
        }
        Check.dueText("the tests that are named", there.toString(), named.toString());
    }
}
