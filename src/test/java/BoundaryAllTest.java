import java.math.BigInteger;
import java.util.ArrayList;
import java.util.List;

/** The boundary cases of promises 20 to 23: IMAGE, counts, digest. */
public final class BoundaryAllTest {
    private static final int NONE = -1, OUTSIDE = -102, STATE = -103;
    private static final int LEAST = Integer.MIN_VALUE, MOST = Integer.MAX_VALUE;
    private static final String EIGHT = Given.lines(8, "a"), OTHERS = Given.lines(8, "b");

    public static void main(String[] args) {
        imageNoText();
        imageLatest();
        imageEmptyAndFull();
        restoreNone();
        restoreAfterAnotherText();
        restoreAgain();
        restoreKeepsSidesAlone();
        countWhats();
        countNoneAndMost();
        countReads();
        digestOfNoText();
        digestWithAText();
        digestOfThePage();
        digestOfRacks();
        digestWraps();
        Check.end();
    }

    private static void text(LineScript script, String want) {
        Check.dueText("the TEXT", want, Given.text(script));
    }

    private static void imageNoText() {
        Check.sentence("Promise 20: STATE: no TEXT");
        LineScript script = Given.typed("a;b");
        Check.due("image()", STATE, script.image());
        Check.due("restore() behind image() that is refused", STATE, script.restore());
        script.text();
        Check.due("restore() behind text()", STATE, script.restore());
        Check.due("image() behind text()", 2, script.image());
    }

    private static void imageLatest() {
        Check.sentence("Promise 20: An IMAGE is kept (one; the latest)");
        LineScript script = Given.read("a,b;c");
        Check.due("image()", 3, script.image());
        script.take(0, 0);
        Check.due("image(), another one", 2, script.image());
        script.take(0, 0);
        Check.due("image(), the latest", 1, script.image());
        script.put(0, 0, 'e');
        Check.due("restore()", 1, script.restore());
        text(script, ";c");
        // what is done behind it does not change the IMAGE
        script.put(1, 1, 'd');
        script.swap(1, 0, 1);
        script.turn();
        Check.due("restore() once more", 1, script.restore());
        text(script, ";c");
    }

    private static void imageEmptyAndFull() {
        Check.sentence("Promise 20: how many LINES both SIDES have");
        LineScript none = Given.read(";");
        Check.due("image() of no LINES", 0, none.image());
        none.put(0, 0, 'a');
        Check.due("restore() of no LINES", 0, none.restore());
        text(none, ";");
        Check.due("count(2)", 0, none.count(2));
        LineScript full = Given.read(EIGHT + ";" + OTHERS);
        Check.due("image() of eight and eight", 16, full.image());
        for (int line = 7; line >= 0; line--) {
            full.take(0, line);
            full.take(1, line);
        }
        Check.due("restore() of eight and eight", 16, full.restore());
        text(full, EIGHT + ";" + OTHERS);
        Check.due("count(2)", 16, full.count(2));
    }

    private static void restoreNone() {
        Check.sentence("Promise 21: STATE: none was kept");
        LineScript script = new LineScript();
        Check.due("restore() of a new object", STATE, script.restore());
        Given.type(script, "a,b;c");
        script.text();
        script.take(0, 0);
        Check.due("restore()", STATE, script.restore());
        text(script, "b;c");
    }

    private static void restoreAfterAnotherText() {
        Check.sentence("Promise 21: STATE: or there is another TEXT since");
        LineScript script = Given.read("a,b;c");
        script.image();
        Given.type(script, ",");
        Check.due("text() of none", STATE, script.text());
        script.take(0, 0);
        Check.due("restore() behind text() that is refused", 3, script.restore());
        script.blank();
        Given.type(script, "d;e");
        Check.due("restore() when it is not read yet", 3, script.restore());
        script.text();
        Check.due("restore() behind another TEXT", STATE, script.restore());
        text(script, "d;e");
        Check.due("image() of the other one", 2, script.image());
        script.turn();
        Check.due("restore() of the other one", 2, script.restore());
        text(script, "d;e");
        Given.type(script, "d;e");
        script.text();
        Check.due("restore() behind a TEXT of the same letters", STATE, script.restore());
        Given.type(script, ";");
        script.text();
        Check.due("restore() behind a TEXT of no LINES", STATE, script.restore());
    }

    private static void restoreAgain() {
        Check.sentence("Promise 21: It goes on from the IMAGE");
        LineScript script = Given.read("a,b;c");
        script.image();
        Check.due("restore() at once", 3, script.restore());
        text(script, "a,b;c");
        for (int times = 0; times < 3; times++) {
            script.turn();
            script.put(0, 1, 'e');
            Check.due("restore() again", 3, script.restore());
            text(script, "a,b;c");
            Check.dueText("the script", "D0 D1 A0", Given.steps(script));
        }
    }

    private static void restoreKeepsSidesAlone() {
        Check.sentence("An IMAGE keeps both SIDES (not RACKS: they are empty then)");
        LineScript script = Given.read("a,b;c");
        script.rack(0, 0);
        script.image();
        script.letter('x');
        script.rack(0, 1);
        Check.due("restore()", 3, script.restore());
        Check.due("count(8)", 0, script.count(8));
        Check.due("racked(0, 0)", NONE, script.racked(0, 0));
        Check.due("racked(1, 0)", NONE, script.racked(1, 0));
        Check.due("count(9), THE PAGE stays", 1, script.count(9));
        Check.due("count(10)", 1, script.count(10));
    }

    private static void countWhats() {
        Check.sentence("Promise 22: How many: 0 to 10. OUTSIDE");
        LineScript none = new LineScript();
        LineScript script = Given.read("a;b");
        Check.due("count(0)", 1, script.count(0));
        Check.due("count(10)", 1, script.count(10));
        for (int wrong : new int[] {-1, 11, LEAST, MOST}) {
            Check.due("count(" + wrong + ")", OUTSIDE, script.count(wrong));
            Check.due("count(" + wrong + ") of no TEXT", OUTSIDE, none.count(wrong));
        }
    }

    private static void counts(LineScript script, int... want) {
        for (int what = 0; what <= 10; what++) {
            Check.due("count(" + what + ")", want[what], script.count(what));
        }
    }

    private static void countNoneAndMost() {
        Check.sentence("Promise 22: LINES, STEPS, KEPT, DROPPED, ADDED that are not CHANGED, CHANGED that "
                + "are not MENDED, MENDED, STEPS on all RACKS, letters of THE PAGE");
        counts(new LineScript(), 0, 0, 0, 0, 0, 0, 0, 0, 0, 0, 0);
        counts(Given.read(";"), 0, 0, 0, 0, 0, 0, 0, 0, 0, 0, 1);
        counts(Given.read(EIGHT + ";" + EIGHT), 8, 8, 8, 8, 0, 0, 0, 0, 0, 0, 1);
        counts(Given.read(EIGHT + ";" + OTHERS), 8, 8, 16, 0, 8, 8, 0, 0, 0, 0, 1);
        counts(Given.read(EIGHT + ";" + Given.lines(8, "ab")), 8, 8, 8, 0, 0, 0, 8, 0, 0, 0, 1);
        counts(Given.read(Given.lines(8, "ab") + ";" + Given.lines(8, "abc")), 8, 8, 8, 0, 0, 0, 0, 8, 0, 0, 1);
        // one of each: M0-0 K1-1 D2 A2 K3-3 C4-4
        LineScript script = Given.read("ab,e,c,d,ab;abc,e,b,d,ac");
        Given.type(script, "~".repeat(65));
        for (int kind : new int[] {0, 2, 3, 4}) {
            for (int times = 0; times < 4; times++) {
                script.rack(0, kind);
                script.rack(2, 1);
            }
        }
        counts(script, 5, 5, 6, 2, 1, 1, 1, 1, 15, 64, 1);
    }

    private static void countReads() {
        Check.sentence("Promise 22: 10 how often a TEXT was read");
        LineScript script = Given.typed("a");
        script.text();
        Check.due("count(10) behind text() that is refused", 0, script.count(10));
        script.letter(';');
        script.text();
        Check.due("count(10)", 1, script.count(10));
        script.image();
        script.restore();
        script.turn();
        script.drawn(30, 1, 0);
        script.text();
        Check.due("count(10) behind what reads none", 1, script.count(10));
        Given.type(script, "a;");
        script.text();
        Check.due("count(10) behind the same one again", 2, script.count(10));
    }

    /** What the document has in digest(), number by number, asked of the object itself. */
    private static List<Long> numbers(LineScript script, String page, boolean hasText) {
        List<Long> numbers = new ArrayList<>();
        for (int side = 0; side <= 1; side++) {
            for (int line = 0; line < script.count(side); line++) {
                for (int what = 0; what <= 5; what++) {
                    numbers.add((long) script.line(side, line, what));
                }
            }
        }
        for (int step = 0; step < script.count(2); step++) {
            for (int what = 0; what <= 4; what++) {
                numbers.add((long) script.step(step, what));
            }
        }
        if (hasText) {
            for (int what = 0; what <= 4; what++) {
                numbers.add((long) script.cost(what));
            }
            numbers.add(script.all());
        }
        for (int kind = 0; kind <= 4; kind++) {
            for (int place = 0; place <= 2; place++) {
                numbers.add((long) script.racked(kind, place));
            }
        }
        page.chars().forEach(code -> numbers.add((long) code));
        for (int what = 0; what <= 10; what++) {
            numbers.add((long) script.count(what));
        }
        return numbers;
    }

    /** The number that never wraps. */
    private static BigInteger whole(List<Long> numbers) {
        BigInteger hash = BigInteger.valueOf(1409);
        for (long number : numbers) {
            hash = hash.multiply(BigInteger.valueOf(31)).add(BigInteger.valueOf(number));
        }
        return hash;
    }

    private static void digest(String name, LineScript script, String page, boolean hasText) {
        Check.due("digest() " + name, whole(numbers(script, page, hasText)).longValue(), script.digest());
    }

    private static void digestOfNoText() {
        Check.sentence("Promise 23: h is 1409, then for each of these numbers (no LINE, no STEP, no TEXT)");
        long want = 1409;
        for (int number = 0; number < 15; number++) {
            want = 31 * want - 1;
        }
        for (int number = 0; number < 11; number++) {
            want = 31 * want;
        }
        Check.due("digest() of a new object", want, new LineScript().digest());
        digest("of a new object", new LineScript(), "", false);
    }

    private static void digestWithAText() {
        Check.sentence("Promise 23: with a TEXT cost() for 0 to 4, all()");
        digest("of a TEXT of no LINES", Given.read(";"), "", true);
        LineScript taken = Given.read("a;");
        taken.take(0, 0);
        Check.due("digest() of no LINES left", Given.read(";").digest(), taken.digest());
        digest("of one SIDE", Given.read("a,b;"), "", true);
        digest("of all KINDS", Given.read("ab,e,c,d,ab;abc,e,b,d,ac"), "", true);
        digest("of 16 STEPS", Given.read(EIGHT + ";" + OTHERS), "", true);
    }

    private static void digestOfThePage() {
        Check.sentence("Promise 23: letters of THE PAGE");
        String longest = "~".repeat(63) + (char) 1;
        digest("of a full page", Given.typed(longest), longest, false);
        LineScript script = Given.read("a;a");
        Given.type(script, "a");
        digest("of a page of one", script, "a", true);
        long before = script.digest();
        script.blank();
        Given.type(script, "b");
        Check.due("it is another one with another letter", 0, before == script.digest() ? 1 : 0);
    }

    private static void digestOfRacks() {
        Check.sentence("Promise 23: of each KIND racked() for 0 to 2");
        LineScript script = Given.read("ab;abc");
        for (int times = 0; times < 3; times++) {
            script.rack(0, 2);
        }
        digest("with a full RACK", script, "", true);
        script.rack(0, 4);
        digest("with another RACK", script, "", true);
    }

    private static void digestWraps() {
        Check.sentence("Promise 23: as longs, wrapping");
        LineScript script = Given.read(EIGHT + ";" + Given.lines(8, "abc"));
        List<Long> numbers = numbers(script, "", true);
        BigInteger whole = whole(numbers);
        Check.due("it is more than a long holds", 1, whole.bitLength() > 64 ? 1 : 0);
        Check.due("digest()", whole.longValue(), script.digest());
        // both signs come of wrapping
        boolean below = false;
        boolean above = false;
        for (int lines = 1; lines <= 8; lines++) {
            long digest = Given.read(Given.lines(lines, "a") + ";").digest();
            below |= digest < 0;
            above |= digest > 0;
        }
        Check.due("a digest() below 0 is there", 1, below ? 1 : 0);
        Check.due("a digest() above 0 is there", 1, above ? 1 : 0);
    }
}
