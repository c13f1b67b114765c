/** Each promise by itself: ordinary inputs, the edges that the document names, wrong inputs. */
public final class PromiseTest {
    private static final int NONE = -1, UNKNOWN = -101, OUTSIDE = -102, STATE = -103, FULL = -104;
    private static final int LEAST = Integer.MIN_VALUE, MOST = Integer.MAX_VALUE;
    private static final int TWO_THIRDS = 0x3f2aaaab, ONE = 0x3f800000;
    private static final String EIGHT = "a,a,a,a,a,a,a,a";
    private static final String LONGEST = "abc,abc,abc,abc,abc,abc,abc,abc";
    /** Its script: CHANGED 0-0, ADDED 1, KEPT 1-2, DROPPED 2. */
    private static final String MIXED = "abc,de,a;abd,a,de";

    public static void main(String[] args) {
        newObject();
        letter();
        blank();
        fault();
        text();
        line();
        step();
        stepsOfMatch();
        stepsOfSlides();
        stepsOfPairs();
        letters();
        like();
        rack();
        racked();
        racksAreEmptied();
        put();
        take();
        swap();
        turn();
        cost();
        best();
        all();
        drawn();
        image();
        restore();
        count();
        digest();
        refusalsChangeNothing();
        Check.end();
    }

    private static void dueSteps(String text, String want) {
        Check.dueText("the script of " + text, want, Given.steps(Given.read(text)));
    }

    private static void newObject() {
        LineScript script = new LineScript();
        for (int what = 0; what <= 10; what++) {
            Check.due("new: count(" + what + ")", 0, script.count(what));
        }
        Check.due("new: fault()", 0, script.fault());
        Check.due("new: blank()", 0, script.blank());
        Check.due("new: text()", STATE, script.text());
        Check.due("new: line(0, 0, 0)", UNKNOWN, script.line(0, 0, 0));
        Check.due("new: step(0, 0)", UNKNOWN, script.step(0, 0));
        Check.due("new: letters(0, 0)", UNKNOWN, script.letters(0, 0));
        Check.due("new: like(0, 0)", UNKNOWN, script.like(0, 0));
        Check.due("new: rack(0, 0)", UNKNOWN, script.rack(0, 0));
        Check.due("new: racked(0, 0)", NONE, script.racked(0, 0));
        Check.due("new: take(0, 0)", UNKNOWN, script.take(0, 0));
        Check.due("new: swap(0, 0, 1)", UNKNOWN, script.swap(0, 0, 1));
        Check.due("new: put(0, 0, 97)", STATE, script.put(0, 0, 97));
        Check.due("new: put(0, 1, 97)", UNKNOWN, script.put(0, 1, 97));
        Check.due("new: put(0, 0, 96)", OUTSIDE, script.put(0, 0, 96));
        Check.due("new: turn()", STATE, script.turn());
        Check.due("new: cost(0)", STATE, script.cost(0));
        Check.due("new: cost(5)", OUTSIDE, script.cost(5));
        Check.due("new: best(97)", STATE, script.best(97));
        Check.due("new: best(96)", OUTSIDE, script.best(96));
        Check.due("new: all()", STATE, script.all());
        Check.due("new: image()", STATE, script.image());
        Check.due("new: restore()", STATE, script.restore());
    }

    private static void letter() {
        LineScript script = new LineScript();
        Check.due("letter(1)", 1, script.letter(1));
        Check.due("letter(126)", 2, script.letter(126));
        for (int code : new int[] {0, 127, -1, LEAST, MOST}) {
            Check.due("letter(" + code + ")", OUTSIDE, script.letter(code));
        }
        for (int size = 3; size <= 64; size++) {
            Check.due("letter(97) as number " + size, size, script.letter(97));
        }
        Check.due("letter(97) above 64", FULL, script.letter(97));
        Check.due("letter(0) above 64", OUTSIDE, script.letter(0));
        Check.due("count(9)", 64, script.count(9));
    }

    private static void blank() {
        LineScript script = Given.typed("ab;c");
        Check.due("blank()", 4, script.blank());
        Check.due("blank() again", 0, script.blank());
        Check.due("letter(97) behind blank()", 1, script.letter(97));
        Given.type(script, ";");
        Check.due("text() behind blank()", 1, script.text());
        Check.due("line(0, 0, 0) behind blank()", 1, script.line(0, 0, 0));
    }

    private static void dueFault(String page, int want) {
        Check.due("fault() of " + page, want, Given.typed(page).fault());
    }

    private static void fault() {
        for (String page : new String[] {"", "a", "abc", "a,", "a;", ";", ";e", "a,b;c,", EIGHT + ";" + EIGHT}) {
            dueFault(page, page.length());
        }
        dueFault(",", 0);
        dueFault("f", 0);
        dueFault("`", 0);
        dueFault("A;a", 0);
        dueFault("abcd", 3);
        dueFault("a,,", 2);
        dueFault("a,;", 2);
        dueFault(";,", 1);
        dueFault(";;", 1);
        dueFault("a;b;", 3);
        dueFault("a b;", 1);
        dueFault("a,bcde;f", 5);
        dueFault(EIGHT + ",", 15);
        dueFault(";" + EIGHT + ",", 16);
        dueFault(LONGEST + ";" + LONGEST, 63);
        dueFault(LONGEST + ";" + LONGEST + "a", 63);
        LineScript script = Given.typed("a;b");
        script.fault();
        Check.due("count(9) behind fault()", 3, script.count(9));
    }

    private static void dueText(String page, int want) {
        Check.due("text() of " + page, want, Given.typed(page).text());
    }

    private static void text() {
        dueText(";", 0);
        dueText("a;", 1);
        dueText(";a", 1);
        dueText(MIXED, 6);
        dueText(LONGEST + ";" + LONGEST, 16);
        for (String page : new String[] {"", "a", "a,b", "a,;", "a;b,", ",;", "abcd;", "f;", "a;b;", EIGHT + ",a;"}) {
            dueText(page, STATE);
        }
        LineScript script = Given.read(MIXED);
        Check.due("count(9) behind text()", 0, script.count(9));
        Given.type(script, "a;,");
        Check.due("text() of none", STATE, script.text());
        Check.due("count(9) behind text() of none", 3, script.count(9));
        Check.due("count(10) behind text() of none", 1, script.count(10));
        Check.dueText("the OLD side behind text() of none", "abc,de,a", Given.side(script, 0));
        script.blank();
        Given.type(script, "e;dd");
        Check.due("text() of another", 2, script.text());
        Check.dueText("the OLD side of another", "e", Given.side(script, 0));
        Check.dueText("the NEW side of another", "dd", Given.side(script, 1));
        Check.due("count(10)", 2, script.count(10));
    }

    private static void line() {
        LineScript script = Given.read(MIXED);
        int[][] old = {{3, 'a', 'b', 'c', 0, 0}, {2, 'd', 'e', NONE, 2, 1}, {1, 'a', NONE, NONE, NONE, 0}};
        int[][] neu = {{3, 'a', 'b', 'd', 0, 0}, {1, 'a', NONE, NONE, NONE, 0}, {2, 'd', 'e', NONE, 1, 1}};
        for (int line = 0; line < 3; line++) {
            for (int what = 0; what <= 5; what++) {
                Check.due("line(0, " + line + ", " + what + ")", old[line][what], script.line(0, line, what));
                Check.due("line(1, " + line + ", " + what + ")", neu[line][what], script.line(1, line, what));
            }
        }
        for (int wrong : new int[] {-1, 3, LEAST, MOST}) {
            Check.due("line(0, " + wrong + ", 0)", UNKNOWN, script.line(0, wrong, 0));
            Check.due("line(" + wrong + ", 0, 9)", UNKNOWN, script.line(wrong, 0, 9));
        }
        Check.due("line(2, 0, 0)", UNKNOWN, script.line(2, 0, 0));
        for (int wrong : new int[] {-1, 6, LEAST, MOST}) {
            Check.due("line(0, 0, " + wrong + ")", OUTSIDE, script.line(0, 0, wrong));
        }
    }

    private static void step() {
        LineScript script = Given.read(MIXED);
        int[][] want = {{3, 0, 0, TWO_THIRDS, 0}, {2, NONE, 1, 0, 0}, {0, 1, 2, ONE, NONE}, {1, 2, NONE, 0, 1}};
        for (int step = 0; step < 4; step++) {
            for (int what = 0; what <= 4; what++) {
                Check.due("step(" + step + ", " + what + ")", want[step][what], script.step(step, what));
            }
        }
        for (int wrong : new int[] {-1, 4, LEAST, MOST}) {
            Check.due("step(" + wrong + ", 9)", UNKNOWN, script.step(wrong, 9));
        }
        for (int wrong : new int[] {-1, 5, LEAST, MOST}) {
            Check.due("step(0, " + wrong + ")", OUTSIDE, script.step(0, wrong));
        }
    }

    private static void stepsOfMatch() {
        dueSteps(";", "");
        dueSteps("a,b;", "D0 D1");
        dueSteps(";a,b", "A0 A1");
        dueSteps("a,b;a,b", "K0-0 K1-1");
        // the first LINES, then the last ones
        dueSteps("a,b,e;a,c,d,e", "K0-0 D1 A1 A2 K2-3");
        // anchors that cross: the least OLD number
        dueSteps("a,b;b,a", "A0 K0-1 D1");
        dueSteps("a,b,c;d,a,c,b", "A0 K0-1 A2 K1-3 D2");
        // the longest chain goes ahead of the least OLD number
        dueSteps("a,b,c;b,c,a", "D0 K1-0 K2-1 A2");
        // "a" is an anchor but in the part ahead of "c"
        dueSteps("b,a,c,a;a,e,c,d", "D0 K1-0 A1 K2-2 D3 A3");
        // an anchor is kept, though more could be kept without it
        dueSteps("a,a,c;c,a,a", "D0 D1 K2-0 A1 A2");
        // no anchors: as many can be kept without either, so the OLD one is dropped
        dueSteps("a,a,b,b;b,b,a,a", "D0 D1 K2-0 K3-1 A2 A3");
        // no anchors: more can be kept without the NEW one
        dueSteps("a,a,d;b,b,a,a,e", "A0 A1 K0-2 K1-3 D2 A4");
    }

    private static void dueSlides(String text, int slides, int gaps, String steps) {
        dueSteps(text, steps);
        Check.due("cost(2) of " + text, slides, Given.read(text).cost(2));
        Check.due("cost(4) of " + text, gaps, Given.read(text).cost(4));
    }

    private static void stepsOfSlides() {
        dueSlides("a,b;a,b,a,b", 2, 1, "A0 A1 K0-2 K1-3");
        dueSlides("a,b,a,b;a,b", 2, 1, "D0 D1 K2-0 K3-1");
        dueSlides(EIGHT + ";a", 1, 1, "D0 D1 D2 D3 D4 D5 D6 K7-0");
        dueSlides("c,a;c,a,a", 1, 1, "K0-0 A1 K1-2");
        dueSlides("a,b;a,c,b", 0, 1, "K0-0 A1 K1-2");
        // a GAP of both sorts does not slide
        dueSlides("a,b;a,c,a", 0, 1, "K0-0 D1 A1 A2");
        // it comes to the GAP ahead: one GAP, the dropped one first
        dueSlides("b,a,b;a,a,b,a", 1, 2, "D0 A0 K1-1 K2-2 A3");
        // such a GAP slides no more, though the one ahead is the same as its last one
        dueSlides("b,b,a;b,a,b,b,a,b", 1, 2, "K0-0 A1 A2 K1-3 K2-4 A5");
    }

    private static void stepsOfPairs() {
        dueSteps("ab;ac", "C0-0");
        dueSteps("a;ab", "C0-0");
        dueSteps("ab;abc", "M0-0");
        dueSteps("ab;acd", "D0 A0");
        dueSteps("abc;cba", "D0 A0");
        // the second ones of each are a pair, too; what is dropped comes ahead of all that is added
        dueSteps("ab,c,d;e,cd", "D0 D2 A0 C1-1");
        dueSteps("a,b;ab,bc,cd,e", "C0-0 C1-1 A2 A3");
        dueSteps("ab,ac,bc;b", "D1 D2 C0-0");
        // a GAP has its own pairs
        dueSteps("ab,e,c;e,abd", "D0 K1-0 D2 A1");
        LineScript script = Given.read("ab,e,abc;ac,e,bc");
        Check.dueText("steps of two gaps", "C0-0 K1-1 M2-2", Given.steps(script));
        Check.due("gap of the first", 0, script.step(0, 4));
        Check.due("gap of the KEPT one", NONE, script.step(1, 4));
        Check.due("gap of the last", 1, script.step(2, 4));
        Check.due("bits of 0.5", 0x3f000000, script.step(0, 3));
        Check.due("bits of 0.8", 0x3f4ccccd, script.step(2, 3));
    }

    private static void letters() {
        LineScript script = Given.read("abc,e,a,cc;bcd,e,b,c");
        Check.dueText("steps for letters()", "C0-0 K1-1 D2 A2 C3-3", Given.steps(script));
        int[] want = {2, 1, 1};
        for (int what = 0; what <= 2; what++) {
            Check.due("letters(0, " + what + ")", want[what], script.letters(0, what));
        }
        int[] last = {1, 1, 0};
        for (int what = 0; what <= 2; what++) {
            Check.due("letters(4, " + what + ")", last[what], script.letters(4, what));
        }
        LineScript mended = Given.read("a,b;abc,cb");
        Check.due("letters(0, 0) of a, abc", 1, mended.letters(0, 0));
        Check.due("letters(0, 1) of a, abc", 0, mended.letters(0, 1));
        Check.due("letters(0, 2) of a, abc", 2, mended.letters(0, 2));
        Check.due("letters(0, 2) of a MENDED one", 1, Given.read("ab;abc").letters(0, 2));
        for (int wrong : new int[] {-1, 5, LEAST, MOST}) {
            Check.due("letters(" + wrong + ", 9)", UNKNOWN, script.letters(wrong, 9));
        }
        for (int step = 1; step <= 3; step++) {
            Check.due("letters(" + step + ", 9)", STATE, script.letters(step, 9));
        }
        for (int wrong : new int[] {-1, 3, LEAST, MOST}) {
            Check.due("letters(0, " + wrong + ")", OUTSIDE, script.letters(0, wrong));
        }
    }

    private static void dueLike(String old, String neu, float want) {
        String text = old + ";" + neu;
        Check.due("like(0, 0) of " + text, Float.floatToIntBits(want), Given.read(text).like(0, 0));
    }

    private static void like() {
        dueLike("a", "b", 0f);
        dueLike("a", "a", 1f);
        dueLike("abc", "abc", 1f);
        dueLike("a", "ab", 2f / 3f);
        dueLike("a", "abc", 2f / 4f);
        dueLike("ab", "ba", 2f / 4f);
        dueLike("ab", "acd", 2f / 5f);
        dueLike("ab", "acb", 4f / 5f);
        dueLike("abc", "cde", 2f / 6f);
        dueLike("abc", "acb", 4f / 6f);
        dueLike("aab", "baa", 4f / 6f);
        LineScript wide = Given.read("a;b,c,a");
        Check.due("like(0, 2) of one OLD line", ONE, wide.like(0, 2));
        Check.due("like(1, 0) of one OLD line", UNKNOWN, wide.like(1, 0));
        wide.turn();
        Check.due("like(2, 0) of one NEW line", ONE, wide.like(2, 0));
        Check.due("like(0, 1) of one NEW line", UNKNOWN, wide.like(0, 1));
        LineScript script = Given.read(MIXED);
        Check.due("like(2, 1)", ONE, script.like(2, 1));
        Check.due("like(0, 1)", Float.floatToIntBits(0.5f), script.like(0, 1));
        Check.due("like(2, 0)", Float.floatToIntBits(0.5f), script.like(2, 0));
        for (int wrong : new int[] {-1, 3, LEAST, MOST}) {
            Check.due("like(" + wrong + ", 0)", UNKNOWN, script.like(wrong, 0));
            Check.due("like(0, " + wrong + ")", UNKNOWN, script.like(0, wrong));
        }
    }

    private static void rack() {
        // steps: M0-0 KEPT DROPPED ADDED KEPT CHANGED
        String text = "ab,e,c,d,ab;abc,e,b,d,ac";
        Check.dueText("steps for rack()", "M0-0 K1-1 D2 A2 K3-3 C4-4", Given.steps(Given.read(text)));
        int[] taker = {0b11101, 0b00001, 0b00011, 0b00101, 0b00001, 0b01101};
        for (int step = 0; step < taker.length; step++) {
            for (int kind = 0; kind <= 4; kind++) {
                int want = (taker[step] >> kind & 1) == 1 ? 1 : NONE;
                Check.due("rack(" + step + ", " + kind + ")", want, Given.read(text).rack(step, kind));
            }
        }
        LineScript script = Given.read(text);
        Check.due("rack(3, 2)", 1, script.rack(3, 2));
        Check.due("rack(2, 2), none such", NONE, script.rack(2, 2));
        Check.due("rack(5, 2)", 2, script.rack(5, 2));
        Check.due("rack(3, 2) once more", 3, script.rack(3, 2));
        Check.due("rack(0, 2), full", FULL, script.rack(0, 2));
        Check.due("rack(1, 2), full, whatever it is", FULL, script.rack(1, 2));
        Check.due("rack(0, 3), another one", 1, script.rack(0, 3));
        for (int wrong : new int[] {-1, 6, LEAST, MOST}) {
            Check.due("rack(" + wrong + ", 9)", UNKNOWN, script.rack(wrong, 9));
        }
        for (int wrong : new int[] {-1, 5, LEAST, MOST}) {
            Check.due("rack(0, " + wrong + ")", OUTSIDE, script.rack(0, wrong));
        }
        Check.due("count(8)", 4, script.count(8));
    }

    private static void racked() {
        LineScript script = Given.read(MIXED);
        script.rack(1, 2);
        script.rack(0, 2);
        script.rack(3, 1);
        int[][] want = {{NONE, NONE, NONE}, {3, NONE, NONE}, {1, 0, NONE}, {NONE, NONE, NONE}, {NONE, NONE, NONE}};
        for (int kind = 0; kind <= 4; kind++) {
            for (int place = 0; place <= 2; place++) {
                Check.due("racked(" + kind + ", " + place + ")", want[kind][place], script.racked(kind, place));
            }
        }
        for (int wrong : new int[] {-1, 5, LEAST, MOST}) {
            Check.due("racked(" + wrong + ", 0)", OUTSIDE, script.racked(wrong, 0));
            Check.due("racked(0, " + wrong + ")", OUTSIDE, script.racked(0, wrong));
        }
        Check.due("racked(0, 3)", OUTSIDE, script.racked(0, 3));
    }

    private static LineScript withRack() {
        LineScript script = Given.read(MIXED);
        script.image();
        script.rack(0, 0);
        script.rack(3, 1);
        return script;
    }

    private static void dueEmpty(String call, LineScript script) {
        Check.due("count(8) behind " + call, 0, script.count(8));
        Check.due("racked(0, 0) behind " + call, NONE, script.racked(0, 0));
    }

    private static void racksAreEmptied() {
        LineScript script = withRack();
        script.put(0, 0, 97);
        dueEmpty("put()", script);
        script = withRack();
        script.take(0, 0);
        dueEmpty("take()", script);
        script = withRack();
        script.swap(0, 0, 1);
        dueEmpty("swap()", script);
        script = withRack();
        script.turn();
        dueEmpty("turn()", script);
        script = withRack();
        script.restore();
        dueEmpty("restore()", script);
        script = withRack();
        Given.type(script, MIXED);
        script.text();
        dueEmpty("text()", script);
        script = withRack();
        script.best(97);
        script.drawn(3, 1, 0);
        script.digest();
        script.text();
        script.put(0, 9, 97);
        script.image();
        Check.due("count(8) behind what changes no line", 2, script.count(8));
    }

    private static void put() {
        LineScript script = Given.read("a,b;b");
        Check.due("put(1, 1, abc)", 3, script.put(1, 1, Given.packed("abc")));
        Check.due("put(1, 0, a)", 3, script.put(1, 0, 'a'));
        Check.due("put(0, 1, ed)", 4, script.put(0, 1, Given.packed("ed")));
        Check.dueText("the OLD side", "a,ed,b", Given.side(script, 0));
        Check.dueText("the NEW side", "a,b,abc", Given.side(script, 1));
        Check.dueText("the script", "K0-0 D1 K2-1 A2", Given.steps(script));
        for (int wrong : new int[] {-1, 2, LEAST, MOST}) {
            Check.due("put(" + wrong + ", 0, 0)", UNKNOWN, script.put(wrong, 0, 0));
        }
        for (int wrong : new int[] {-1, 4, LEAST, MOST}) {
            Check.due("put(0, " + wrong + ", 0)", UNKNOWN, script.put(0, wrong, 0));
        }
        int fourLetters = Given.packed("abca");
        int[] none = {0, -1, 'a' - 1, 'e' + 1, 97 * 128, 128 + 97, 97 * 128 + 102, 102 * 128 + 97, 97 * 128 * 128 + 97,
            fourLetters, 1 << 21 | Given.packed("abc"), 1 << 31 | Given.packed("abc"), 1 << 31 | 'a', LEAST, MOST};
        for (int letters : none) {
            Check.due("put(0, 0, " + letters + ")", OUTSIDE, script.put(0, 0, letters));
        }
        LineScript full = Given.read(EIGHT + ";");
        Check.due("put() into eight", FULL, full.put(0, 8, 'e'));
        Check.due("put() of none into eight", OUTSIDE, full.put(0, 8, 'f'));
        Check.due("put() behind eight", UNKNOWN, full.put(0, 9, 'e'));
        for (int size = 1; size <= 8; size++) {
            full.put(1, size - 1, 'e');
            Check.due("count(1)", size, full.count(1));
        }
        Check.due("put() into the other eight", FULL, full.put(1, 0, 'a'));
    }

    private static void take() {
        LineScript script = Given.read("a,b,c;a,d");
        Check.due("take(0, 1)", 3, script.take(0, 1));
        Check.dueText("the OLD side", "a,c", Given.side(script, 0));
        Check.due("take(1, 1)", 2, script.take(1, 1));
        Check.dueText("the NEW side", "a", Given.side(script, 1));
        Check.dueText("the script", "K0-0 D1", Given.steps(script));
        for (int wrong : new int[] {-1, 2, LEAST, MOST}) {
            Check.due("take(" + wrong + ", 0)", UNKNOWN, script.take(wrong, 0));
            Check.due("take(0, " + wrong + ")", UNKNOWN, script.take(0, wrong));
        }
        script.take(0, 0);
        script.take(0, 0);
        Check.due("take() of the last one", 0, script.take(1, 0));
        Check.due("take() of none", UNKNOWN, script.take(1, 0));
        Check.due("turn() of no lines", 0, script.turn());
        LineScript shrunk = Given.read("a,b,c;a,b,c");
        shrunk.take(1, 2);
        shrunk.take(1, 1);
        Check.due("cost(0) of what is left", 2, shrunk.cost(0));
        Check.due("cost(1) of what is left", 2, shrunk.cost(1));
        Check.dueText("the script of what is left", "K0-0 D1 D2", Given.steps(shrunk));
    }

    private static void swap() {
        LineScript script = Given.read("a,b,c;a,c,b");
        Check.due("swap(1, 1, 2)", 3, script.swap(1, 1, 2));
        Check.dueText("the NEW side", "a,b,c", Given.side(script, 1));
        Check.due("swap(0, 2, 0)", 5, script.swap(0, 2, 0));
        Check.dueText("the OLD side", "c,b,a", Given.side(script, 0));
        Check.dueText("the script", "A0 A1 K0-2 D1 D2", Given.steps(script));
        Check.due("swap(0, 1, 1)", UNKNOWN, script.swap(0, 1, 1));
        for (int wrong : new int[] {-1, 3, LEAST, MOST}) {
            Check.due("swap(" + wrong + ", 0, 1)", UNKNOWN, script.swap(wrong, 0, 1));
            Check.due("swap(0, " + wrong + ", 1)", UNKNOWN, script.swap(0, wrong, 1));
            Check.due("swap(0, 1, " + wrong + ")", UNKNOWN, script.swap(0, 1, wrong));
        }
        Check.due("swap(2, 0, 1)", UNKNOWN, script.swap(2, 0, 1));
    }

    private static void turn() {
        LineScript script = Given.read("a,b;b,a,cc");
        Check.dueText("the script", "A0 K0-1 D1 A2", Given.steps(script));
        Check.due("turn()", 4, script.turn());
        Check.dueText("the OLD side", "b,a,cc", Given.side(script, 0));
        Check.dueText("the NEW side", "a,b", Given.side(script, 1));
        Check.dueText("the script turned", "A0 K0-1 D1 D2", Given.steps(script));
        script.turn();
        Check.dueText("the script turned twice", "A0 K0-1 D1 A2", Given.steps(script));
        Check.due("turn() of none", 0, Given.read(";").turn());
    }

    private static void dueCosts(String text, int... want) {
        LineScript script = Given.read(text);
        for (int what = 0; what <= 4; what++) {
            Check.due("cost(" + what + ") of " + text, want[what], script.cost(what));
        }
    }

    private static void cost() {
        dueCosts(";", 0, 0, 0, 0, 0);
        dueCosts("a;a", 0, 0, 0, 0, 0);
        dueCosts("ab;abc", 2, 2, 0, 0, 1);
        dueCosts(MIXED, 4, 4, 0, 1, 2);
        dueCosts("a,a,c;c,a,a", 4, 2, 0, 1, 2);
        dueCosts("b,a,c,a;a,e,c,d", 4, 4, 0, 2, 3);
        dueCosts("a,b,c;b,c,a", 2, 2, 0, 2, 2);
        dueCosts("a,b,c;d,a,c,b", 3, 3, 0, 2, 3);
        dueCosts("a,b;a,b,a,b", 2, 2, 2, 0, 1);
        dueCosts("b,a,b;a,a,b,a", 3, 3, 1, 0, 2);
        LineScript script = Given.read(MIXED);
        for (int wrong : new int[] {-1, 5, LEAST, MOST}) {
            Check.due("cost(" + wrong + ")", OUTSIDE, script.cost(wrong));
        }
    }

    private static void dueBest(String text, String line, int want) {
        LineScript script = Given.read(text);
        long before = script.digest();
        Check.due("best(" + line + ") of " + text, want, script.best(Given.packed(line)));
        Check.due("digest() behind best()", before, script.digest());
    }

    private static void best() {
        dueBest(";", "a", 0);
        dueBest("a,b;a", "b", 1);
        dueBest("b,a;a", "b", 0);
        dueBest("a,b,c;a,c", "b", 1);
        dueBest("a,b;a,b", "c", 0);
        dueBest("a,bcd;a", "bcd", 1);
        dueBest("b,a;b,c,d", "a", 1);
        dueBest("c;a,b,a,b", "c", 0);
        dueBest("a,b;b,b,a,a", "b", 3);
        dueBest(MIXED, "a", 3);
        // by COST, not by SHORTEST: a second "c" that makes it no anchor
        dueBest("a,a,c;c,a,a", "c", 3);
        LineScript script = Given.read("a;" + EIGHT);
        Check.due("best() of eight", FULL, script.best('a'));
        for (int wrong : new int[] {0, -1, 'f', 97 * 128, Given.packed("abca"), LEAST, MOST}) {
            Check.due("best(" + wrong + ")", OUTSIDE, script.best(wrong));
        }
        Check.due("best() of eight OLD ones", 0, Given.read(EIGHT + ";").best('a'));
    }

    private static void dueAll(String text, double want) {
        Check.due("all() of " + text, Double.doubleToLongBits(want), Given.read(text).all());
    }

    private static void all() {
        dueAll(";", 1.0);
        dueAll("a;", 0.0);
        dueAll("a;b", 0.0);
        dueAll("a;a", 1.0);
        dueAll("ab;abc", 0.0);
        dueAll("a,b;a", 2.0 / 3.0);
        dueAll(MIXED, 2.0 / 6.0);
        dueAll("a,a,c;c,a,a", 2.0 / 6.0);
        dueAll(EIGHT + ";a", 2.0 / 9.0);
        dueAll("a,b,c;a,b,d,e", 4.0 / 7.0);
        dueAll(EIGHT + ";a,b,b,b,b,b,b,b", 2.0 / 16.0);
        dueAll("a,b,c,d,e,ab;a,b,c,d,e,a,b", 10.0 / 13.0);
    }

    private static void drawn() {
        LineScript script = new LineScript();
        // by seed 1: draws of 5 from 16838, 5758, 10113, 17515, 31051, 5627, 23010, 7419: d,d,d,a;b,c,a,e
        Check.due("drawn(1, 1, 0)", 6, script.drawn(1, 1, 0));
        Check.due("drawn(1, 1, 1)", 0, script.drawn(1, 1, 1));
        Check.due("drawn(1, 1, 2) / 65536", 7419, script.drawn(1, 1, 2) / 65536);
        Check.due("drawn(20, 1033, 0)", 96, script.drawn(20, 1033, 0));
        Check.due("drawn(20, 1033, 1)", 1, script.drawn(20, 1033, 1));
        Check.due("drawn(3, 1034, 2)", 994627602, script.drawn(3, 1034, 2));
        Model model = new Model();
        for (int what = 0; what <= 2; what++) {
            for (int seed : new int[] {0, 1, 77, MOST}) {
                Check.due("drawn(30, " + seed + ", " + what + ")", model.drawn(30, seed, what),
                        script.drawn(30, seed, what));
            }
        }
        for (int wrong : new int[] {0, 31, -1, LEAST, MOST}) {
            Check.due("drawn(" + wrong + ", 1, 0)", OUTSIDE, script.drawn(wrong, 1, 0));
        }
        Check.due("drawn(1, -1, 0)", OUTSIDE, script.drawn(1, -1, 0));
        Check.due("drawn(1, LEAST, 0)", OUTSIDE, script.drawn(1, LEAST, 0));
        for (int wrong : new int[] {-1, 3, LEAST, MOST}) {
            Check.due("drawn(1, 1, " + wrong + ")", OUTSIDE, script.drawn(1, 1, wrong));
        }
        LineScript other = Given.read(MIXED);
        long before = other.digest();
        other.drawn(30, 5, 0);
        Check.due("digest() behind drawn()", before, other.digest());
    }

    private static void image() {
        LineScript script = Given.read(MIXED);
        Check.due("image()", 6, script.image());
        script.take(0, 0);
        Check.due("image(), the latest", 5, script.image());
        script.take(0, 0);
        script.restore();
        Check.dueText("the OLD side of the latest", "de,a", Given.side(script, 0));
        Check.due("image() of no lines", 0, Given.read(";").image());
    }

    private static void restore() {
        LineScript script = Given.read(MIXED);
        Check.due("restore() of none", STATE, script.restore());
        script.image();
        long before = script.digest();
        script.put(1, 2, Given.packed("ee"));
        script.swap(0, 0, 2);
        script.turn();
        Check.due("restore()", 6, script.restore());
        Check.dueText("the OLD side", "abc,de,a", Given.side(script, 0));
        Check.dueText("the NEW side", "abd,a,de", Given.side(script, 1));
        Check.due("digest() behind restore()", before, script.digest());
        script.take(1, 1);
        Check.due("restore() again", 6, script.restore());
        Given.type(script, ",");
        script.text();
        Check.due("restore() behind text() of none", 6, script.restore());
        Check.due("count(9) behind restore()", 1, script.count(9));
        script.blank();
        Given.type(script, "a;a");
        script.text();
        Check.due("restore() behind another text", STATE, script.restore());
        script.image();
        Check.due("restore() of the other text", 2, script.restore());
    }

    private static void count() {
        // steps: M0-0 KEPT DROPPED ADDED KEPT CHANGED
        LineScript script = Given.read("ab,e,c,c,d,ab;abc,e,b,d,ac");
        script.rack(0, 0);
        script.rack(1, 0);
        script.rack(0, 4);
        Given.type(script, "xyz!");
        int[] want = {6, 5, 7, 2, 2, 1, 1, 1, 3, 4, 1};
        for (int what = 0; what <= 10; what++) {
            Check.due("count(" + what + ")", want[what], script.count(what));
        }
        for (int wrong : new int[] {-1, 11, LEAST, MOST}) {
            Check.due("count(" + wrong + ")", OUTSIDE, script.count(wrong));
        }
        script.blank();
        Given.type(script, "a;");
        script.text();
        Check.due("count(10)", 2, script.count(10));
        Check.due("count(1)", 0, script.count(1));
    }

    private static long hash(long start, long... numbers) {
        long hash = start;
        for (long number : numbers) {
            hash = 31 * hash + number;
        }
        return hash;
    }

    private static void digest() {
        long empty = hash(1409, -1, -1, -1, -1, -1, -1, -1, -1, -1, -1, -1, -1, -1, -1, -1);
        LineScript script = new LineScript();
        Check.due("digest() of a new object", hash(empty, 0, 0, 0, 0, 0, 0, 0, 0, 0, 0, 0), script.digest());
        script.letter(126);
        script.letter(7);
        Check.due("digest() with a page", hash(empty, 126, 7, 0, 0, 0, 0, 0, 0, 0, 0, 0, 2, 0), script.digest());
        LineScript full = Given.read("ab,e;ad,e");
        full.rack(1, 0);
        full.rack(0, 0);
        full.rack(0, 3);
        full.letter(';');
        long half = Float.floatToIntBits(0.5f);
        long want = hash(1409, 2, 97, 98, -1, 0, 0, 1, 101, -1, -1, 1, 1);
        want = hash(want, 2, 97, 100, -1, 0, 0, 1, 101, -1, -1, 1, 1);
        want = hash(want, 3, 0, 0, half, 0, 0, 1, 1, ONE, -1);
        want = hash(want, 2, 2, 0, 0, 1, Double.doubleToLongBits(0.5));
        want = hash(want, 1, 0, -1, -1, -1, -1, -1, -1, -1, 0, -1, -1, -1, -1, -1);
        want = hash(want, 59, 2, 2, 2, 1, 0, 0, 1, 0, 3, 1, 1);
        Check.due("digest()", want, full.digest());
        Check.due("digest() again", want, full.digest());
    }

    private static void refusalsChangeNothing() {
        LineScript script = withRack();
        Given.type(script, "a,");
        long before = script.digest();
        script.letter(0);
        script.text();
        script.line(2, 0, 0);
        script.step(9, 0);
        script.letters(1, 0);
        script.like(3, 0);
        script.rack(0, 1);
        script.rack(0, 5);
        script.rack(9, 0);
        script.racked(5, 0);
        script.put(2, 0, 97);
        script.put(0, 4, 97);
        script.put(0, 0, 102);
        script.take(0, 3);
        script.swap(0, 1, 1);
        script.cost(5);
        script.best(0);
        script.drawn(0, 0, 0);
        script.count(11);
        Check.due("digest() behind refusals", before, script.digest());
        Check.due("restore() behind refusals", 6, script.restore());
        LineScript full = Given.read(EIGHT + ";" + EIGHT);
        before = full.digest();
        full.put(0, 0, 97);
        full.best(97);
        full.restore();
        Check.due("digest() behind refusals of eight", before, full.digest());
    }
}
