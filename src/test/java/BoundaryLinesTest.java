/** The boundary cases of promises 12 to 15: LINES put, taken out, swapped, the SIDES exchanged. */
public final class BoundaryLinesTest {
    private static final int UNKNOWN = -101, OUTSIDE = -102, STATE = -103, FULL = -104;
    private static final int LEAST = Integer.MIN_VALUE, MOST = Integer.MAX_VALUE;
    private static final String EIGHT = Given.lines(8, "a");
    private static final int[] NO_SIDES = {-1, 2, LEAST, MOST};
    /** What is none of a LINE, where the first one, the second one, the third one or how many there are is wrong. */
    private static final int[] NO_LETTERS = {0, 1, 'a' - 1, 'e' + 1, 127, 128,
        Given.packed("`a"), Given.packed("fa"), Given.packed("a`"), Given.packed("ef"), 'a' << 7, 1 << 7 | 'a',
        Given.packed("`aa"), Given.packed("fee"), Given.packed("a`a"), Given.packed("efe"), Given.packed("aa`"),
        Given.packed("eef"), 'a' << 14, 'a' << 14 | 'a', 'a' << 14 | 'a' << 7, 1 << 14 | 'a' << 7 | 'a',
        Given.packed("aaaa"), Given.packed("eeee"), 1 << 21 | Given.packed("aaa"), 1 << 28 | Given.packed("aaa"),
        LEAST | Given.packed("aaa"), LEAST | Given.packed("aa"), LEAST | 'a', -1, -'a', LEAST, MOST};

    public static void main(String[] args) {
        putPlaces();
        putSides();
        putLetters();
        putNoText();
        putFull();
        takeLines();
        takeToNone();
        swapLines();
        swapSameNumber();
        turnNoText();
        turnEmptyAndFull();
        Check.end();
    }

    private static void text(LineScript script, String want) {
        Check.dueText("the TEXT", want, Given.text(script));
    }

    private static void putPlaces() {
        Check.sentence("Promise 12: UNKNOWN: place (0 to as many as there are)");
        LineScript script = Given.read("a,b;c");
        for (int wrong : new int[] {-1, 3, 8, LEAST, MOST}) {
            Check.due("put(0, " + wrong + ", d)", UNKNOWN, script.put(0, wrong, 'd'));
            Check.due("put(0, " + wrong + ", f), UNKNOWN is told first", UNKNOWN, script.put(0, wrong, 'f'));
        }
        for (int wrong : new int[] {-1, 2, LEAST, MOST}) {
            Check.due("put(1, " + wrong + ", d)", UNKNOWN, script.put(1, wrong, 'd'));
        }
        text(script, "a,b;c");
        Check.due("put(0, 2, d), behind the last one", 4, script.put(0, 2, 'd'));
        text(script, "a,b,d;c");
        Check.due("put(0, 0, e), ahead of the first one", 5, script.put(0, 0, 'e'));
        text(script, "e,a,b,d;c");
        Check.due("put(0, 2, bb), between", 6, script.put(0, 2, Given.packed("bb")));
        text(script, "e,a,bb,b,d;c");
        LineScript none = Given.read(";");
        Check.due("put(1, 1, a) of no LINES", UNKNOWN, none.put(1, 1, 'a'));
        Check.due("put(1, 0, a) of no LINES", 1, none.put(1, 0, 'a'));
        text(none, ";a");
    }

    private static void putSides() {
        Check.sentence("Promise 12: UNKNOWN: side (0, 1)");
        LineScript script = Given.read(";");
        for (int wrong : NO_SIDES) {
            Check.due("put(" + wrong + ", 0, a)", UNKNOWN, script.put(wrong, 0, 'a'));
            Check.due("put(" + wrong + ", 0, 0), UNKNOWN is told first", UNKNOWN, script.put(wrong, 0, 0));
        }
        script.put(0, 0, 'a');
        script.put(1, 0, 'b');
        text(script, "a;b");
    }

    private static void putLetters() {
        Check.sentence("Promise 12: the codes of its letters as figures of 128, the first one the highest; "
                + "OUTSIDE: letters (one to three, \"a\" to \"e\")");
        for (String line : new String[] {"a", "e", "aa", "ae", "ea", "ee", "aaa", "aae", "eaa", "eee", "abc"}) {
            LineScript script = Given.read(";");
            Check.due("put(0, 0, " + line + ")", 1, script.put(0, 0, Given.packed(line)));
            text(script, line + ";");
        }
        LineScript script = Given.read("a;e");
        for (int wrong : NO_LETTERS) {
            Check.due("put(0, 0, " + wrong + ")", OUTSIDE, script.put(0, 0, wrong));
            Check.due("best(" + wrong + ")", OUTSIDE, script.best(wrong));
        }
        text(script, "a;e");
        Check.due("put(0, 0, 97), one letter", 3, script.put(0, 0, 97));
        Check.due("put(0, 0, 97 * 128 + 98), two", 4, script.put(0, 0, 97 * 128 + 98));
        Check.due("put(0, 0, (97 * 128 + 98) * 128 + 99), three", 5, script.put(0, 0, (97 * 128 + 98) * 128 + 99));
        text(script, "abc,ab,a,a;e");
    }

    private static void putNoText() {
        Check.sentence("Promise 12: STATE: no TEXT");
        LineScript script = new LineScript();
        Check.due("put(0, 0, a)", STATE, script.put(0, 0, 'a'));
        Check.due("put(1, 0, eee)", STATE, script.put(1, 0, Given.packed("eee")));
        Check.due("put(0, 0, f), OUTSIDE is told first", OUTSIDE, script.put(0, 0, 'f'));
        Check.due("put(0, 1, a), UNKNOWN is told first", UNKNOWN, script.put(0, 1, 'a'));
        Check.due("put(2, 0, a), UNKNOWN is told first", UNKNOWN, script.put(2, 0, 'a'));
        Check.due("put(2, 0, f), UNKNOWN is told first", UNKNOWN, script.put(2, 0, 'f'));
        text(script, ";");
        Check.due("digest()", new LineScript().digest(), script.digest());
    }

    private static void putFull() {
        Check.sentence("Promise 12: FULL: there are eight");
        LineScript script = Given.read(Given.lines(7, "a") + ";");
        Check.due("put(0, 7, b), the eighth", 8, script.put(0, 7, 'b'));
        text(script, Given.lines(7, "a") + ",b;");
        long before = script.digest();
        for (int place = 0; place <= 8; place++) {
            Check.due("put(0, " + place + ", b), the ninth", FULL, script.put(0, place, 'b'));
        }
        Check.due("put(0, 9, b), UNKNOWN is told first", UNKNOWN, script.put(0, 9, 'b'));
        Check.due("put(0, -1, b), UNKNOWN is told first", UNKNOWN, script.put(0, -1, 'b'));
        Check.due("put(0, 8, f), OUTSIDE is told first", OUTSIDE, script.put(0, 8, 'f'));
        Check.due("put(0, 9, f), UNKNOWN is told first", UNKNOWN, script.put(0, 9, 'f'));
        Check.due("digest()", before, script.digest());
        for (int size = 1; size <= 8; size++) {
            Check.due("put(1, 0, c), NEW number " + size, 8 + size, script.put(1, 0, 'c'));
        }
        Check.due("put(1, 0, c), the ninth", FULL, script.put(1, 0, 'c'));
        script.take(0, 0);
        Check.due("put(0, 0, d) where one was taken out", 16, script.put(0, 0, 'd'));
        Check.due("put(0, 0, d) once more", FULL, script.put(0, 0, 'd'));
    }

    private static void takeLines() {
        Check.sentence("Promise 13: UNKNOWN: side, line");
        LineScript script = Given.read("a,b,c,d,e,aa,bb,cc;a");
        for (int wrong : new int[] {-1, 8, LEAST, MOST}) {
            Check.due("take(0, " + wrong + ")", UNKNOWN, script.take(0, wrong));
        }
        for (int wrong : new int[] {-1, 1, 7, LEAST, MOST}) {
            Check.due("take(1, " + wrong + ")", UNKNOWN, script.take(1, wrong));
        }
        for (int wrong : NO_SIDES) {
            Check.due("take(" + wrong + ", 0)", UNKNOWN, script.take(wrong, 0));
        }
        text(script, "a,b,c,d,e,aa,bb,cc;a");
        Check.due("take(0, 7), the last one", 7, script.take(0, 7));
        text(script, "a,b,c,d,e,aa,bb;a");
        Check.due("take(0, 7), once more", UNKNOWN, script.take(0, 7));
        Check.due("take(0, 0), the first one", 7, script.take(0, 0));
        text(script, "b,c,d,e,aa,bb;a");
        Check.due("take(0, 0) of no TEXT", UNKNOWN, new LineScript().take(0, 0));
        Check.due("take(1, 0) of no LINES", UNKNOWN, Given.read("a;").take(1, 0));
    }

    private static void takeToNone() {
        Check.sentence("Promise 13: A LINE is taken out: how many STEPS");
        LineScript script = Given.read("a;b");
        Check.due("take(0, 0)", 1, script.take(0, 0));
        Check.due("take(1, 0), the very last one", 0, script.take(1, 0));
        Check.due("take(0, 0) of none", UNKNOWN, script.take(0, 0));
        // what is left is a TEXT still
        Check.due("cost(0)", 0, script.cost(0));
        Check.due("all()", Double.doubleToLongBits(1.0), script.all());
        Check.due("turn()", 0, script.turn());
        Check.due("image()", 0, script.image());
        Check.due("put(1, 0, e)", 1, script.put(1, 0, 'e'));
        text(script, ";e");
    }

    private static void swapLines() {
        Check.sentence("Promise 14: UNKNOWN: side, one, other");
        LineScript script = Given.read("a,b,c,d,e,aa,bb,cc;a,b");
        Check.due("swap(0, 0, 7)", 9, script.swap(0, 0, 7));
        text(script, "cc,b,c,d,e,aa,bb,a;a,b");
        Check.due("swap(0, 7, 0)", 8, script.swap(0, 7, 0));
        text(script, "a,b,c,d,e,aa,bb,cc;a,b");
        for (int wrong : new int[] {-1, 8, LEAST, MOST}) {
            Check.due("swap(0, " + wrong + ", 1)", UNKNOWN, script.swap(0, wrong, 1));
            Check.due("swap(0, 1, " + wrong + ")", UNKNOWN, script.swap(0, 1, wrong));
        }
        for (int wrong : new int[] {-1, 2, 7, LEAST, MOST}) {
            Check.due("swap(1, " + wrong + ", 1)", UNKNOWN, script.swap(1, wrong, 1));
            Check.due("swap(1, 1, " + wrong + ")", UNKNOWN, script.swap(1, 1, wrong));
        }
        for (int wrong : NO_SIDES) {
            Check.due("swap(" + wrong + ", 0, 1)", UNKNOWN, script.swap(wrong, 0, 1));
        }
        text(script, "a,b,c,d,e,aa,bb,cc;a,b");
        Check.due("swap(1, 1, 0)", 9, script.swap(1, 1, 0));
        text(script, "a,b,c,d,e,aa,bb,cc;b,a");
        Check.due("swap(0, 0, 1) of no TEXT", UNKNOWN, new LineScript().swap(0, 0, 1));
        Check.due("swap(0, 0, 1) of one LINE", UNKNOWN, Given.read("a;").swap(0, 0, 1));
        Check.due("swap(0, 0, 1) of two LINES", 2, Given.read("a,b;").swap(0, 0, 1));
    }

    private static void swapSameNumber() {
        Check.sentence("Promise 14: UNKNOWN: or they are the same number");
        LineScript script = Given.read("a,b;c");
        long before = script.digest();
        for (int number : new int[] {0, 1, 2, -1, 8, LEAST, MOST}) {
            Check.due("swap(0, " + number + ", " + number + ")", UNKNOWN, script.swap(0, number, number));
            Check.due("swap(1, " + number + ", " + number + ")", UNKNOWN, script.swap(1, number, number));
        }
        Check.due("digest()", before, script.digest());
        // two that are the SAME have not the same number
        Check.due("swap(0, 0, 1) of a,a;", 2, Given.read("a,a;").swap(0, 0, 1));
    }

    private static void turnNoText() {
        Check.sentence("Promise 15: STATE: no TEXT");
        LineScript script = new LineScript();
        Check.due("turn()", STATE, script.turn());
        Given.type(script, "a;b");
        Check.due("turn() with a page that is not read", STATE, script.turn());
        Check.due("count(9)", 3, script.count(9));
        script.text();
        Check.due("turn() behind text()", 2, script.turn());
        text(script, "b;a");
    }

    private static void turnEmptyAndFull() {
        Check.sentence("Promise 15: The SIDES are exchanged: how many STEPS");
        LineScript none = Given.read(";");
        Check.due("turn() of none", 0, none.turn());
        LineScript half = Given.read("a,bb,abc;");
        Check.due("turn() of one SIDE", 3, half.turn());
        text(half, ";a,bb,abc");
        Check.dueText("the script", "A0 A1 A2", Given.steps(half));
        Check.due("turn() back", 3, half.turn());
        text(half, "a,bb,abc;");
        LineScript full = Given.read(EIGHT + ";" + Given.lines(8, "eee"));
        Check.due("turn() of eight and eight", 16, full.turn());
        text(full, Given.lines(8, "eee") + ";" + EIGHT);
    }
}
