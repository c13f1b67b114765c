import java.util.ArrayList;
import java.util.List;
import java.util.function.Consumer;
import java.util.function.ToLongFunction;

/**
 * "Refusals, of several the first as told by each call ...; they change nothing": each refused call, with its answer,
 * is made on one of two objects that have come the same way, and both must be the same behind it, their IMAGES too.
 */
public final class RefusalTest {
    private static final int UNKNOWN = -101, OUTSIDE = -102, STATE = -103, FULL = -104;
    private static final int LEAST = Integer.MIN_VALUE, MOST = Integer.MAX_VALUE;
    private static final int[] NO_SIDES = {LEAST, -1, 2, MOST};
    private static final int[] NO_KINDS = {LEAST, -1, 5, MOST};
    private static final int[] NO_LETTERS = {LEAST, -1, 0, 'a' - 1, 'e' + 1, Given.packed("af"), Given.packed("aaaa"),
        MOST};

    private static String name;
    private static Consumer<LineScript> way;

    public static void main(String[] args) {
        newObject();
        pageThatIsNone();
        fullPage();
        noLines();
        busy();
        fullRacks();
        eightLines();
        noImage();
        imageOfAnotherText();
        Check.end();
    }

    private static void given(String words, Consumer<LineScript> calls) {
        name = words;
        way = calls;
        Check.sentence("they change nothing (" + words + ")");
    }

    private static LineScript come() {
        LineScript script = new LineScript();
        way.accept(script);
        return script;
    }

    private static void refused(String call, long want, ToLongFunction<LineScript> asked) {
        LineScript script = come();
        Check.due(call, want, asked.applyAsLong(script));
        Check.dueText("all behind " + call + " of " + name, portrait(come()), portrait(script));
    }

    /** All that an object shows, ahead of restore() and behind it. */
    private static String portrait(LineScript script) {
        List<Long> shown = new ArrayList<>();
        show(script, shown);
        shown.add((long) script.restore());
        show(script, shown);
        shown.add((long) script.letter(';'));
        shown.add((long) script.text());
        show(script, shown);
        return shown.toString();
    }

    private static void show(LineScript script, List<Long> shown) {
        for (int what = 0; what <= 10; what++) {
            shown.add((long) script.count(what));
        }
        shown.add((long) script.fault());
        shown.add((long) script.best('a'));
        shown.add(script.digest());
    }

    private static void newObject() {
        given("a new object", script -> { });
        wrongNumbers(0, 0, 0);
        refused("text()", STATE, LineScript::text);
        refused("turn()", STATE, LineScript::turn);
        refused("all()", STATE, LineScript::all);
        refused("image()", STATE, LineScript::image);
        refused("restore()", STATE, LineScript::restore);
        for (int what = 0; what <= 4; what++) {
            int number = what;
            refused("cost(" + what + ")", STATE, script -> script.cost(number));
        }
        for (int side = 0; side <= 1; side++) {
            int one = side;
            refused("put(" + side + ", 0, a)", STATE, script -> script.put(one, 0, 'a'));
        }
        refused("best(a)", STATE, script -> script.best('a'));
    }

    private static void pageThatIsNone() {
        for (String page : new String[] {"a", "a,", "a;b,", "abcd;", "f;", "a;b;", Given.lines(9, "a") + ";"}) {
            given("the page " + page, script -> Given.type(script, page));
            refused("text()", STATE, LineScript::text);
            given("the page " + page + " behind a TEXT", script -> {
                Given.type(script, "a,b;c");
                script.text();
                script.image();
                script.take(0, 1);
                script.rack(0, 0);
                Given.type(script, page);
            });
            refused("text()", STATE, LineScript::text);
        }
    }

    private static void fullPage() {
        given("a page of 64", script -> Given.type(script, "a".repeat(64)));
        for (int code : new int[] {1, 'a', 126}) {
            refused("letter(" + code + ")", FULL, script -> script.letter(code));
        }
        for (int code : new int[] {LEAST, -1, 0, 127, MOST}) {
            refused("letter(" + code + ")", OUTSIDE, script -> script.letter(code));
        }
        refused("text()", STATE, LineScript::text);
        given("a page of 63", script -> Given.type(script, "a".repeat(63)));
        for (int code : new int[] {LEAST, -1, 0, 127, MOST}) {
            refused("letter(" + code + ")", OUTSIDE, script -> script.letter(code));
        }
    }

    private static void noLines() {
        given("a TEXT of no LINES", script -> {
            Given.type(script, ";");
            script.text();
            script.image();
        });
        wrongNumbers(0, 0, 0);
        wrongLetters(0, 0);
    }

    /** STEPS of all KINDS, an IMAGE that is another one than what is there, RACKS, a PAGE. */
    private static void busy() {
        given("a TEXT with all KINDS", script -> {
            Given.type(script, "ab,e,c,d,ab;abc,e,b,d,ac,aa");
            script.text();
            script.image();
            script.take(1, 5);
            script.rack(0, 0);
            script.rack(2, 1);
            script.rack(5, 3);
            Given.type(script, "a,b");
        });
        wrongNumbers(5, 5, 6);
        wrongLetters(5, 5);
        refused("text()", STATE, LineScript::text);
        for (int step = 1; step <= 4; step++) {
            int number = step;
            refused("letters(" + step + ", 0)", STATE, script -> script.letters(number, 0));
            refused("letters(" + step + ", 3)", STATE, script -> script.letters(number, 3));
        }
        for (int what : new int[] {LEAST, -1, 3, MOST}) {
            refused("letters(0, " + what + ")", OUTSIDE, script -> script.letters(0, what));
            refused("letters(5, " + what + ")", OUTSIDE, script -> script.letters(5, what));
        }
    }

    private static void fullRacks() {
        given("a full RACK", script -> {
            Given.type(script, "ab,e,c,d,ab;abc,e,b,d,ac");
            script.text();
            script.rack(3, 2);
            script.rack(0, 2);
            script.rack(5, 2);
        });
        for (int step = 0; step <= 5; step++) {
            int number = step;
            refused("rack(" + step + ", 2)", FULL, script -> script.rack(number, 2));
        }
        refused("rack(6, 2)", UNKNOWN, script -> script.rack(6, 2));
        refused("rack(0, 5)", OUTSIDE, script -> script.rack(0, 5));
        // not a refusal, but it is not taken
        refused("rack(1, 1)", -1, script -> script.rack(1, 1));
    }

    private static void eightLines() {
        given("eight and eight", script -> {
            Given.type(script, Given.lines(7, "a") + ";" + Given.lines(8, "bc"));
            script.text();
            script.image();
            script.put(0, 7, 'e');
            script.rack(15, 2);
        });
        wrongNumbers(8, 8, 16);
        wrongLetters(8, 8);
        for (int place = 0; place <= 8; place++) {
            int number = place;
            refused("put(0, " + place + ", a)", FULL, script -> script.put(0, number, 'a'));
            refused("put(1, " + place + ", a)", FULL, script -> script.put(1, number, 'a'));
        }
        refused("best(a)", FULL, script -> script.best('a'));
    }

    private static void noImage() {
        given("no IMAGE", script -> {
            Given.type(script, "a,b;c");
            script.text();
            script.rack(0, 0);
        });
        refused("restore()", STATE, LineScript::restore);
    }

    private static void imageOfAnotherText() {
        given("an IMAGE of another TEXT", script -> {
            Given.type(script, "a,b;c");
            script.text();
            script.image();
            Given.type(script, "a,b;c");
            script.text();
            script.rack(0, 0);
        });
        refused("restore()", STATE, LineScript::restore);
    }

    /** Numbers of SIDES, LINES, STEPS, KINDS and "what" that name nothing, whatever the other numbers are. */
    private static void wrongNumbers(int oldLines, int newLines, int steps) {
        for (int side : NO_SIDES) {
            refused("line(" + side + ", 0, 0)", UNKNOWN, script -> script.line(side, 0, 0));
            refused("line(" + side + ", 0, 6)", UNKNOWN, script -> script.line(side, 0, 6));
            refused("put(" + side + ", 0, a)", UNKNOWN, script -> script.put(side, 0, 'a'));
            refused("put(" + side + ", 0, f)", UNKNOWN, script -> script.put(side, 0, 'f'));
            refused("take(" + side + ", 0)", UNKNOWN, script -> script.take(side, 0));
            refused("swap(" + side + ", 0, 1)", UNKNOWN, script -> script.swap(side, 0, 1));
        }
        wrongLines(0, oldLines);
        wrongLines(1, newLines);
        for (int line : new int[] {LEAST, -1, oldLines, MOST}) {
            refused("like(" + line + ", 0)", UNKNOWN, script -> script.like(line, 0));
        }
        for (int line : new int[] {LEAST, -1, newLines, MOST}) {
            refused("like(0, " + line + ")", UNKNOWN, script -> script.like(0, line));
        }
        for (int step : new int[] {LEAST, -1, steps, MOST}) {
            refused("step(" + step + ", 0)", UNKNOWN, script -> script.step(step, 0));
            refused("step(" + step + ", 5)", UNKNOWN, script -> script.step(step, 5));
            refused("letters(" + step + ", 0)", UNKNOWN, script -> script.letters(step, 0));
            refused("letters(" + step + ", 3)", UNKNOWN, script -> script.letters(step, 3));
            refused("rack(" + step + ", 0)", UNKNOWN, script -> script.rack(step, 0));
            refused("rack(" + step + ", 5)", UNKNOWN, script -> script.rack(step, 5));
        }
        if (steps > 0) {
            wrongWhatsOfOne();
        }
        wrongWhats();
    }

    private static void wrongLines(int side, int lines) {
        for (int line : new int[] {LEAST, -1, lines, MOST}) {
            refused("line(" + side + ", " + line + ", 0)", UNKNOWN, script -> script.line(side, line, 0));
            refused("line(" + side + ", " + line + ", 6)", UNKNOWN, script -> script.line(side, line, 6));
            refused("take(" + side + ", " + line + ")", UNKNOWN, script -> script.take(side, line));
            refused("swap(" + side + ", 0, " + line + ")", UNKNOWN, script -> script.swap(side, 0, line));
            refused("swap(" + side + ", " + line + ", 0)", UNKNOWN, script -> script.swap(side, line, 0));
        }
        for (int same : new int[] {LEAST, -1, 0, lines - 1, lines, MOST}) {
            refused("swap(" + side + ", " + same + ", " + same + ")", UNKNOWN, script -> script.swap(side, same, same));
        }
        for (int place : new int[] {LEAST, -1, lines + 1, MOST}) {
            refused("put(" + side + ", " + place + ", a)", UNKNOWN, script -> script.put(side, place, 'a'));
            refused("put(" + side + ", " + place + ", f)", UNKNOWN, script -> script.put(side, place, 'f'));
        }
    }

    private static void wrongLetters(int oldLines, int newLines) {
        for (int letters : NO_LETTERS) {
            refused("put(0, " + oldLines + ", " + letters + ")", OUTSIDE, script -> script.put(0, oldLines, letters));
            refused("put(1, " + newLines + ", " + letters + ")", OUTSIDE, script -> script.put(1, newLines, letters));
        }
    }

    private static void wrongWhatsOfOne() {
        for (int what : new int[] {LEAST, -1, 6, MOST}) {
            refused("line(0, 0, " + what + ")", OUTSIDE, script -> script.line(0, 0, what));
        }
        for (int what : new int[] {LEAST, -1, 5, MOST}) {
            refused("step(0, " + what + ")", OUTSIDE, script -> script.step(0, what));
            refused("rack(0, " + what + ")", OUTSIDE, script -> script.rack(0, what));
        }
    }

    /** What is OUTSIDE with a TEXT and without one. */
    private static void wrongWhats() {
        for (int code : new int[] {LEAST, -1, 0, 127, MOST}) {
            refused("letter(" + code + ")", OUTSIDE, script -> script.letter(code));
        }
        for (int kind : NO_KINDS) {
            refused("racked(" + kind + ", 0)", OUTSIDE, script -> script.racked(kind, 0));
            refused("cost(" + kind + ")", OUTSIDE, script -> script.cost(kind));
        }
        for (int place : new int[] {LEAST, -1, 3, MOST}) {
            refused("racked(0, " + place + ")", OUTSIDE, script -> script.racked(0, place));
            refused("drawn(1, 1, " + place + ")", OUTSIDE, script -> script.drawn(1, 1, place));
        }
        for (int letters : NO_LETTERS) {
            refused("best(" + letters + ")", OUTSIDE, script -> script.best(letters));
            refused("put(0, 0, " + letters + ")", OUTSIDE, script -> script.put(0, 0, letters));
        }
        for (int times : new int[] {LEAST, -1, 0, 31, MOST}) {
            refused("drawn(" + times + ", 1, 0)", OUTSIDE, script -> script.drawn(times, 1, 0));
        }
        for (int seed : new int[] {LEAST, -1}) {
            refused("drawn(1, " + seed + ", 0)", OUTSIDE, script -> script.drawn(1, seed, 0));
        }
        for (int what : new int[] {LEAST, -1, 11, MOST}) {
            refused("count(" + what + ")", OUTSIDE, script -> script.count(what));
        }
    }
}
