/** The boundary cases of "What it is" and of promises 1 to 6: THE PAGE, THE TEXT, its LINES. */
public final class BoundaryTextTest {
    private static final int NONE = -1, UNKNOWN = -101, OUTSIDE = -102, STATE = -103, FULL = -104;
    private static final int LEAST = Integer.MIN_VALUE, MOST = Integer.MAX_VALUE;
    /** 31 letters: two such SIDES and ";" are the longest TEXT, of 63. */
    private static final String LONGEST = Given.lines(8, "abc");

    public static void main(String[] args) {
        twoSides();
        noLine();
        oneToEightLines();
        commasBetween();
        oneToThreeLetters();
        lettersFromAToE();
        callsUpToTheLast();
        newObject();
        letterCodes();
        letterFull();
        blankEmptyAndFull();
        faultOfTheFirst();
        faultOfNone();
        textOfNone();
        textIsGone();
        lineNumbers();
        lineWhats();
        lineLetters();
        linePartners();
        Check.end();
    }

    /** No letter is wrong, and it is read as it was typed. */
    private static void taken(String page, int lines) {
        LineScript script = Given.typed(page);
        Check.due("fault() of " + page, page.length(), script.fault());
        Check.due("text() of " + page, lines, script.text());
        Check.dueText("what was read of " + page, page, Given.text(script));
    }

    /** Its letter at that place is the first that is wrong (or it ends there too early), and it is not read. */
    private static void refused(String page, int fault) {
        LineScript script = Given.typed(page);
        Check.due("fault() of " + page, fault, script.fault());
        Check.due("text() of " + page, STATE, script.text());
        Check.due("count(9) behind text() of " + page, page.length(), script.count(9));
        Check.due("count(10) behind text() of " + page, 0, script.count(10));
    }

    private static void unfinished(String page) {
        refused(page, page.length());
    }

    private static void twoSides() {
        Check.sentence("A TEXT is two SIDES, the OLD one (0), \";\", the NEW one (1)");
        unfinished("a");
        unfinished("a,b");
        taken("a;b", 2);
        refused("a;b;", 3);
        refused(";;", 1);
        refused("a;;b", 2);
        refused("a:b", 1);
        refused("a<b", 1);
    }

    private static void noLine() {
        Check.sentence("each no LINE");
        taken(";", 0);
        taken("a;", 1);
        taken(";a", 1);
        taken(LONGEST + ";", 8);
        taken(";" + LONGEST, 8);
        unfinished("");
    }

    private static void oneToEightLines() {
        Check.sentence("or one to eight LINES");
        for (int lines = 1; lines <= 8; lines++) {
            taken(Given.lines(lines, "a") + ";", lines);
            taken(";" + Given.lines(lines, "a"), lines);
            taken(Given.lines(lines, "abc") + ";" + Given.lines(lines, "abc"), 2 * lines);
        }
        String nine = Given.lines(9, "a");
        refused(nine + ";", 15);
        refused(";" + nine, 16);
        refused("a,b;" + nine, 19);
        refused(LONGEST + ",;", 31);
        refused(LONGEST + ";" + LONGEST + ",", 63);
        // the eight of the OLD SIDE are not counted for the NEW one
        taken(Given.lines(8, "a") + ";" + Given.lines(8, "b"), 16);
    }

    private static void commasBetween() {
        Check.sentence("LINES with \",\" between");
        refused(",", 0);
        refused(",a;", 0);
        refused("a,;", 2);
        refused("a,,b;", 2);
        refused(";,", 1);
        refused(";,a", 1);
        refused(";a,,b", 3);
        unfinished("a,");
        unfinished("a;b,");
        unfinished(";" + Given.lines(7, "a") + ",");
        refused("a+b;", 1);
        refused("a-b;", 1);
        taken("a,b;c,d", 4);
    }

    private static void oneToThreeLetters() {
        Check.sentence("each one to three letters");
        taken("a,ab,abc;abc,ab,a", 6);
        taken("abc,abc;abc,abc", 4);
        refused("abcd;", 3);
        refused(";abcd", 4);
        refused("a,abcd;", 5);
        refused("abc;abc,abcd", 11);
        refused(LONGEST + "a;", 31);
        refused(LONGEST + ";" + LONGEST + "a", 63);
    }

    private static void lettersFromAToE() {
        Check.sentence("letters \"a\" to \"e\"");
        for (char letter = 'a'; letter <= 'e'; letter++) {
            taken(letter + ";", 1);
            taken(";" + letter + letter + letter, 1);
        }
        for (char wrong : new char[] {'a' - 1, 'e' + 1, 'A', 'E', 'z', '0', ' ', 1, 126}) {
            refused(wrong + ";", 0);
            refused("a" + wrong + ";", 1);
            refused("aa" + wrong + ";", 2);
            refused("a," + wrong + ";", 2);
            refused(";" + wrong, 1);
            refused(";e" + wrong, 2);
        }
    }

    private static void callsUpToTheLast() {
        Check.sentence("An object is used for at most 512 calls after it has been made");
        LineScript script = new LineScript();
        for (int read = 1; read <= 255; read++) {
            Check.due("letter(;) of text " + read, 1, script.letter(';'));
            Check.due("text() number " + read, 0, script.text());
        }
        Check.due("count(10), call 511", 255, script.count(10));
        Check.due("letter(a), call 512", 1, script.letter('a'));
        LineScript busy = Given.read("a;b");
        for (int call = 5; call <= 511; call++) {
            Check.due("call " + call, 2, busy.turn());
        }
        Check.dueText("the OLD letter by call 512", "b", "" + (char) busy.line(0, 0, 1));
    }

    private static void newObject() {
        Check.sentence("Promise 1: No TEXT. At first there is none");
        LineScript script = new LineScript();
        for (int what = 0; what <= 10; what++) {
            Check.due("count(" + what + ")", 0, script.count(what));
        }
        Check.due("line(0, 0, 0)", UNKNOWN, script.line(0, 0, 0));
        Check.due("line(1, 0, 0)", UNKNOWN, script.line(1, 0, 0));
        Check.due("step(0, 0)", UNKNOWN, script.step(0, 0));
        for (int what = 0; what <= 4; what++) {
            Check.due("cost(" + what + ")", STATE, script.cost(what));
        }
        Check.due("all()", STATE, script.all());
        Check.due("turn()", STATE, script.turn());
        Check.due("image()", STATE, script.image());
        Check.due("restore()", STATE, script.restore());
        Check.due("put(0, 0, 97)", STATE, script.put(0, 0, 97));
        Check.due("best(97)", STATE, script.best(97));
        // a TEXT of no LINES is one
        LineScript none = Given.read(";");
        Check.due("cost(0) of no lines", 0, none.cost(0));
        Check.due("turn() of no lines", 0, none.turn());
        Check.due("put(0, 0, 97) of no lines", 1, none.put(0, 0, 97));
    }

    private static void letterCodes() {
        Check.sentence("Promise 2: OUTSIDE: code (1 to 126)");
        LineScript script = new LineScript();
        for (int code : new int[] {0, -1, 127, 128, 128 + 97, 256 + 97, (1 << 16) + 97, LEAST + 97, LEAST, MOST}) {
            Check.due("letter(" + code + ")", OUTSIDE, script.letter(code));
            Check.due("count(9) behind letter(" + code + ")", 0, script.count(9));
        }
        Check.due("letter(1)", 1, script.letter(1));
        Check.due("letter(2)", 2, script.letter(2));
        Check.due("letter(125)", 3, script.letter(125));
        Check.due("letter(126)", 4, script.letter(126));
    }

    private static void letterFull() {
        Check.sentence("Promise 2: FULL: above 64");
        LineScript script = new LineScript();
        for (int size = 1; size <= 64; size++) {
            Check.due("letter(a) number " + size, size, script.letter('a'));
        }
        Check.due("letter(a) number 65", FULL, script.letter('a'));
        Check.due("letter(127) number 65, OUTSIDE is told first", OUTSIDE, script.letter(127));
        Check.due("letter(0) number 65, OUTSIDE is told first", OUTSIDE, script.letter(0));
        Check.due("count(9)", 64, script.count(9));
        Check.due("fault()", 3, script.fault());
        script.blank();
        Check.due("letter(a) behind blank()", 1, script.letter('a'));
    }

    private static void blankEmptyAndFull() {
        Check.sentence("Promise 3: THE PAGE is empty: how many letters it had");
        LineScript script = new LineScript();
        Check.due("blank() of none", 0, script.blank());
        script.letter(7);
        Check.due("blank() of one", 1, script.blank());
        Check.due("blank() again", 0, script.blank());
        Given.type(script, "a".repeat(65));
        Check.due("blank() of a full one", 64, script.blank());
        Check.due("count(9)", 0, script.count(9));
        Check.due("fault()", 0, script.fault());
        Check.due("text()", STATE, script.text());
        Given.type(script, ";e");
        Check.due("text() of what came behind", 1, script.text());
        Check.dueText("what was read", ";e", Given.text(script));
        Check.due("blank() behind text()", 0, script.blank());
        Check.dueText("the TEXT behind blank()", ";e", Given.text(script));
    }

    private static void faultOfTheFirst() {
        Check.sentence("Promise 4: The place (from 0) of the first letter of THE PAGE that no TEXT has there");
        refused("f;g", 0);
        refused("a,f,g", 2);
        refused("abcd,efgh", 3);
        refused("a;b;c;d", 3);
        refused(LONGEST + ";" + LONGEST + ";", 63);
        refused("~".repeat(64), 0);
        LineScript script = Given.typed("ab;x");
        Check.due("fault()", 3, script.fault());
        Check.due("fault() again", 3, script.fault());
        script.letter('y');
        Check.due("fault() behind one more", 3, script.fault());
    }

    private static void faultOfNone() {
        Check.sentence("Promise 4: how many letters it has, if there is none");
        Check.due("fault() of an empty page", 0, new LineScript().fault());
        String whole = LONGEST + ";" + LONGEST;
        LineScript script = new LineScript();
        for (int size = 1; size <= whole.length(); size++) {
            script.letter(whole.charAt(size - 1));
            Check.due("fault() of " + whole.substring(0, size), size, script.fault());
        }
        Check.due("text() of the longest", 16, script.text());
        Check.due("fault() behind text()", 0, script.fault());
    }

    private static void textOfNone() {
        Check.sentence("Promise 5: STATE: it is none");
        LineScript script = Given.read("a,b;c");
        Check.due("text() of an empty page", STATE, script.text());
        Given.type(script, "e;d,");
        Check.due("text() of e;d,", STATE, script.text());
        Check.dueText("the TEXT that stays", "a,b;c", Given.text(script));
        Check.due("count(9), THE PAGE stays", 4, script.count(9));
        Check.due("count(10)", 1, script.count(10));
        script.letter('a');
        Check.due("text() of e;d,a", 3, script.text());
        Check.dueText("the TEXT that was ended", "e;d,a", Given.text(script));
    }

    private static void textIsGone() {
        Check.sentence("Promise 5: THE PAGE is read as THE TEXT (another one is gone); THE PAGE is empty then");
        LineScript script = Given.read(Given.lines(8, "a") + ";" + Given.lines(8, "b"));
        Check.due("count(9) behind the first", 0, script.count(9));
        script.letter(';');
        Check.due("text() of no lines", 0, script.text());
        Check.due("count(0)", 0, script.count(0));
        Check.due("count(1)", 0, script.count(1));
        Check.due("count(2)", 0, script.count(2));
        Check.due("line(0, 0, 0)", UNKNOWN, script.line(0, 0, 0));
        Check.due("step(0, 0)", UNKNOWN, script.step(0, 0));
        Check.due("count(9)", 0, script.count(9));
        Check.due("count(10)", 2, script.count(10));
    }

    private static void lineNumbers() {
        Check.sentence("Promise 6: UNKNOWN: side, line; LINES of a SIDE are numbered from 0");
        LineScript script = Given.read("a,b,c,d,e,aa,bb,cc;e");
        Check.due("line(0, 0, 1)", 'a', script.line(0, 0, 1));
        Check.due("line(0, 7, 2)", 'c', script.line(0, 7, 2));
        Check.due("line(1, 0, 1)", 'e', script.line(1, 0, 1));
        for (int wrong : new int[] {-1, 8, LEAST, MOST}) {
            Check.due("line(0, " + wrong + ", 0)", UNKNOWN, script.line(0, wrong, 0));
        }
        for (int wrong : new int[] {-1, 1, 7, LEAST, MOST}) {
            Check.due("line(1, " + wrong + ", 0)", UNKNOWN, script.line(1, wrong, 0));
        }
        for (int wrong : new int[] {-1, 2, LEAST, MOST}) {
            Check.due("line(" + wrong + ", 0, 0)", UNKNOWN, script.line(wrong, 0, 0));
        }
        script.take(0, 7);
        Check.due("line(0, 7, 0) behind take(0, 7)", UNKNOWN, script.line(0, 7, 0));
        script.take(1, 0);
        Check.due("line(1, 0, 0) behind take(1, 0)", UNKNOWN, script.line(1, 0, 0));
    }

    private static void lineWhats() {
        Check.sentence("Promise 6: what = 0 to 5; UNKNOWN: side, line; OUTSIDE");
        LineScript script = Given.read("a;a");
        Check.due("line(0, 0, 0)", 1, script.line(0, 0, 0));
        Check.due("line(0, 0, 5)", 1, script.line(0, 0, 5));
        for (int wrong : new int[] {-1, 6, LEAST, MOST}) {
            Check.due("line(0, 0, " + wrong + ")", OUTSIDE, script.line(0, 0, wrong));
            Check.due("line(0, 1, " + wrong + "), UNKNOWN is told first", UNKNOWN, script.line(0, 1, wrong));
            Check.due("line(2, 0, " + wrong + "), UNKNOWN is told first", UNKNOWN, script.line(2, 0, wrong));
        }
    }

    private static void lineLetters() {
        Check.sentence("Promise 6: 1 to 3 the code of that letter (NONE: there is none)");
        LineScript script = Given.read("b,cd,eab;");
        int[][] want = {{1, 'b', NONE, NONE}, {2, 'c', 'd', NONE}, {3, 'e', 'a', 'b'}};
        for (int line = 0; line <= 2; line++) {
            for (int what = 0; what <= 3; what++) {
                Check.due("line(0, " + line + ", " + what + ")", want[line][what], script.line(0, line, what));
            }
        }
    }

    private static void linePartners() {
        Check.sentence("Promise 6: 4 the LINE of the other SIDE with which it is KEPT, or CHANGED (NONE), "
                + "5 whether KEPT");
        // "ab" and "d" are a PAIR that is not LIKE enough; the last two LINES have none at all
        LineScript script = Given.read("ab,a,e;d,ac,e,d,cc");
        Check.dueText("the script", "D0 A0 C1-1 K2-2 A3 A4", Given.steps(script));
        int[][] old = {{NONE, 0}, {1, 0}, {2, 1}};
        int[][] neu = {{NONE, 0}, {1, 0}, {2, 1}, {NONE, 0}, {NONE, 0}};
        for (int line = 0; line < old.length; line++) {
            Check.due("line(0, " + line + ", 4)", old[line][0], script.line(0, line, 4));
            Check.due("line(0, " + line + ", 5)", old[line][1], script.line(0, line, 5));
        }
        for (int line = 0; line < neu.length; line++) {
            Check.due("line(1, " + line + ", 4)", neu[line][0], script.line(1, line, 4));
            Check.due("line(1, " + line + ", 5)", neu[line][1], script.line(1, line, 5));
        }
        LineScript far = Given.read(Given.lines(7, "a") + ";" + Given.lines(8, "a"));
        Check.due("line(0, 6, 4), the last one of eight", 7, far.line(0, 6, 4));
        Check.due("line(1, 0, 4)", NONE, far.line(1, 0, 4));
        Check.due("line(1, 1, 4), the first one", 0, far.line(1, 1, 4));
    }
}
