import java.util.function.Consumer;

/** The boundary cases of KINDS and RACKS, and of promises 10 and 11. */
public final class BoundaryRackTest {
    private static final int NONE = -1, UNKNOWN = -101, OUTSIDE = -102, FULL = -104;
    private static final int LEAST = Integer.MIN_VALUE, MOST = Integer.MAX_VALUE;
    /** Its STEPS: 0 MENDED, 1 KEPT, 2 DROPPED, 3 ADDED, 4 KEPT, 5 CHANGED. */
    private static final String ALL_KINDS = "ab,e,c,d,ab;abc,e,b,d,ac";
    /** A STEP of ALL_KINDS that the RACK of each KIND takes. */
    private static final int[] TAKEN = {1, 2, 3, 5, 0};

    public static void main(String[] args) {
        ofItsKind();
        noneSuch();
        threePlaces();
        inOrder();
        fullWhateverTheStepIs();
        stepNumbers();
        kindNumbers();
        rackedNumbers();
        rackedNothing();
        emptyWhenALineChanges();
        elseNotEmpty();
        Check.end();
    }

    private static void ofItsKind() {
        Check.sentence("All are STEPS; a MENDED one is CHANGED, a CHANGED one is ADDED, too (and so a MENDED one)");
        Check.dueText("the script", "M0-0 K1-1 D2 A2 K3-3 C4-4", Given.steps(Given.read(ALL_KINDS)));
        int[][] takes = {{1, 0, 1, 1, 1}, {1, 0, 0, 0, 0}, {1, 1, 0, 0, 0}, {1, 0, 1, 0, 0}, {1, 0, 0, 0, 0},
            {1, 0, 1, 1, 0}};
        for (int step = 0; step < takes.length; step++) {
            LineScript script = Given.read(ALL_KINDS);
            for (int kind = 0; kind <= 4; kind++) {
                boolean taken = takes[step][kind] == 1;
                Check.due("rack(" + step + ", " + kind + ")", taken ? 1 : NONE, script.rack(step, kind));
                Check.due("racked(" + kind + ", 0)", taken ? step : NONE, script.racked(kind, 0));
            }
        }
    }

    private static void noneSuch() {
        Check.sentence("Promise 10: NONE: it is none such (it is not taken)");
        LineScript script = Given.read(ALL_KINDS);
        script.rack(5, 2);
        long before = script.digest();
        Check.due("rack(1, 2), KEPT", NONE, script.rack(1, 2));
        Check.due("rack(2, 2), DROPPED", NONE, script.rack(2, 2));
        Check.due("rack(5, 4), CHANGED, not MENDED", NONE, script.rack(5, 4));
        Check.due("rack(3, 3), ADDED, not CHANGED", NONE, script.rack(3, 3));
        Check.due("digest() behind NONE", before, script.digest());
        Check.due("rack(3, 2), the second one", 2, script.rack(3, 2));
    }

    private static void threePlaces() {
        Check.sentence("A RACK is of a KIND and has three places; FULL: three are there");
        LineScript script = Given.read(ALL_KINDS);
        for (int kind = 0; kind <= 4; kind++) {
            for (int place = 0; place <= 2; place++) {
                Check.due("rack() on " + kind + " at " + place, place + 1, script.rack(TAKEN[kind], kind));
            }
            Check.due("rack() on " + kind + ", the fourth", FULL, script.rack(TAKEN[kind], kind));
            Check.due("count(8)", 3 * (kind + 1), script.count(8));
        }
        for (int kind = 0; kind <= 4; kind++) {
            for (int place = 0; place <= 2; place++) {
                Check.due("racked(" + kind + ", " + place + ")", TAKEN[kind], script.racked(kind, place));
            }
        }
    }

    private static void inOrder() {
        Check.sentence("it takes a STEP that is of its KIND (or of one that is that, too), in order");
        LineScript script = Given.read(ALL_KINDS);
        script.rack(5, 2);
        script.rack(0, 2);
        script.rack(3, 2);
        Check.due("racked(2, 0)", 5, script.racked(2, 0));
        Check.due("racked(2, 1)", 0, script.racked(2, 1));
        Check.due("racked(2, 2)", 3, script.racked(2, 2));
    }

    private static void fullWhateverTheStepIs() {
        Check.sentence("Promise 10: FULL: three are there (whatever the STEP is)");
        LineScript script = Given.read(ALL_KINDS);
        for (int times = 0; times < 3; times++) {
            script.rack(2, 1);
        }
        long before = script.digest();
        for (int step = 0; step <= 5; step++) {
            Check.due("rack(" + step + ", 1)", FULL, script.rack(step, 1));
        }
        Check.due("rack(6, 1), UNKNOWN is told first", UNKNOWN, script.rack(6, 1));
        Check.due("rack(-1, 1), UNKNOWN is told first", UNKNOWN, script.rack(-1, 1));
        Check.due("rack(2, 5), OUTSIDE is told first", OUTSIDE, script.rack(2, 5));
        Check.due("digest() behind FULL", before, script.digest());
        Check.due("rack(2, 0), another RACK", 1, script.rack(2, 0));
    }

    private static void stepNumbers() {
        Check.sentence("Promise 10: UNKNOWN: step");
        LineScript most = Given.read(Given.lines(8, "a") + ";" + Given.lines(8, "b"));
        Check.due("rack(0, 1)", 1, most.rack(0, 1));
        Check.due("rack(15, 2)", 1, most.rack(15, 2));
        Check.due("racked(2, 0)", 15, most.racked(2, 0));
        for (int wrong : new int[] {-1, 16, LEAST, MOST}) {
            Check.due("rack(" + wrong + ", 0)", UNKNOWN, most.rack(wrong, 0));
            Check.due("rack(" + wrong + ", 5), UNKNOWN is told first", UNKNOWN, most.rack(wrong, 5));
            Check.due("rack(" + wrong + ", -1), UNKNOWN is told first", UNKNOWN, most.rack(wrong, -1));
        }
        Check.due("count(8)", 2, most.count(8));
        Check.due("rack(0, 0) of no STEPS", UNKNOWN, Given.read(";").rack(0, 0));
        Check.due("rack(0, 0) of no TEXT", UNKNOWN, new LineScript().rack(0, 0));
    }

    private static void kindNumbers() {
        Check.sentence("Promise 10: OUTSIDE: kind (0 to 4)");
        LineScript script = Given.read("ab;abc");
        Check.due("rack(0, 0)", 1, script.rack(0, 0));
        Check.due("rack(0, 4)", 1, script.rack(0, 4));
        for (int wrong : new int[] {-1, 5, LEAST, MOST}) {
            Check.due("rack(0, " + wrong + ")", OUTSIDE, script.rack(0, wrong));
        }
        Check.due("count(8)", 2, script.count(8));
    }

    private static void rackedNumbers() {
        Check.sentence("Promise 11: OUTSIDE: kind (0 to 4), place (0 to 2)");
        for (LineScript script : new LineScript[] {new LineScript(), Given.read(ALL_KINDS)}) {
            for (int wrong : new int[] {-1, 5, LEAST, MOST}) {
                Check.due("racked(" + wrong + ", 0)", OUTSIDE, script.racked(wrong, 0));
                Check.due("racked(" + wrong + ", 3)", OUTSIDE, script.racked(wrong, 3));
            }
            for (int wrong : new int[] {-1, 3, LEAST, MOST}) {
                Check.due("racked(0, " + wrong + ")", OUTSIDE, script.racked(0, wrong));
                Check.due("racked(4, " + wrong + ")", OUTSIDE, script.racked(4, wrong));
            }
        }
    }

    private static void rackedNothing() {
        Check.sentence("Promise 11: NONE: nothing is");
        LineScript script = new LineScript();
        for (int kind = 0; kind <= 4; kind++) {
            for (int place = 0; place <= 2; place++) {
                Check.due("racked(" + kind + ", " + place + ") of no TEXT", NONE, script.racked(kind, place));
            }
        }
        LineScript some = Given.read("ab;abc");
        some.rack(0, 4);
        some.rack(0, 4);
        Check.due("racked(4, 1)", 0, some.racked(4, 1));
        Check.due("racked(4, 2)", NONE, some.racked(4, 2));
        Check.due("racked(3, 0), another RACK", NONE, some.racked(3, 0));
    }

    /** Full RACKS of all KINDS, and an IMAGE. */
    private static LineScript full() {
        LineScript script = Given.read(ALL_KINDS);
        script.image();
        for (int kind = 0; kind <= 4; kind++) {
            for (int place = 0; place <= 2; place++) {
                script.rack(TAKEN[kind], kind);
            }
        }
        return script;
    }

    private static void empties(String call, Consumer<LineScript> change) {
        LineScript script = full();
        change.accept(script);
        Check.due("count(8) behind " + call, 0, script.count(8));
        for (int kind = 0; kind <= 4; kind++) {
            for (int place = 0; place <= 2; place++) {
                Check.due("racked(" + kind + ", " + place + ") behind " + call, NONE, script.racked(kind, place));
            }
        }
        Check.due("rack(0, 0) behind " + call, 1, script.rack(0, 0));
    }

    private static void emptyWhenALineChanges() {
        Check.sentence("when a LINE changes, all are empty; An IMAGE keeps both SIDES (not RACKS: they "
                + "are empty then)");
        empties("put()", script -> script.put(0, 0, 'a'));
        empties("put() at the end", script -> script.put(1, 5, 'a'));
        empties("take()", script -> script.take(1, 4));
        empties("swap()", script -> script.swap(0, 0, 4));
        empties("turn()", LineScript::turn);
        empties("restore()", LineScript::restore);
        empties("text()", script -> {
            Given.type(script, "a;a");
            script.text();
        });
    }

    private static void leaves(String call, Consumer<LineScript> asked) {
        LineScript script = full();
        asked.accept(script);
        Check.due("count(8) behind " + call, 15, script.count(8));
        for (int kind = 0; kind <= 4; kind++) {
            Check.due("racked(" + kind + ", 2) behind " + call, TAKEN[kind], script.racked(kind, 2));
        }
    }

    private static void elseNotEmpty() {
        Check.sentence("RACKS hold STEPS of the SCRIPT as it was when they were put");
        leaves("best()", script -> script.best('a'));
        leaves("drawn()", script -> script.drawn(30, 1, 0));
        leaves("cost()", script -> script.cost(1));
        leaves("like(), letters()", script -> {
            script.like(0, 4);
            script.letters(0, 0);
        });
        leaves("image()", LineScript::image);
        leaves("letter(), blank()", script -> {
            script.letter('a');
            script.blank();
        });
        leaves("text() that is refused", LineScript::text);
        leaves("put() that is refused", script -> script.put(0, 6, 'a'));
        leaves("take() that is refused", script -> script.take(0, 5));
        leaves("swap() that is refused", script -> script.swap(0, 1, 1));
    }
}
