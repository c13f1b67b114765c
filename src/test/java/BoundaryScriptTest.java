/** The boundary cases of MATCH, SCRIPT, SLIDES, PAIRS and KINDS, and of promises 7 to 9. */
public final class BoundaryScriptTest {
    private static final int NONE = -1, UNKNOWN = -101, OUTSIDE = -102, STATE = -103;
    private static final int LEAST = Integer.MIN_VALUE, MOST = Integer.MAX_VALUE;
    private static final int HALF = 0x3f000000, TWO_THIRDS = 0x3f2aaaab, FOUR_FIFTHS = 0x3f4ccccd, ONE = 0x3f800000;
    private static final String SEVEN = Given.lines(7, "a"), EIGHT = Given.lines(8, "a");
    /** Six GAPS of one LINE each: as many as there can be. */
    private static final String MOST_GAPS = "aa,a,b,aa,c,d,aa,e;a,bb,b,c,bb,d,e,bb";

    public static void main(String[] args) {
        sameLines();
        firstLines();
        lastLines();
        emptyParts();
        anchorsJustOnce();
        longestChain();
        chainsAlike();
        chainOfOne();
        partsBetweenAnchors();
        mostInOrder();
        gapsEmptyAndMost();
        slidesOfOneSort();
        slidesWithNoneAhead();
        slidesAsFarAsItGoes();
        gapsThatMeet();
        turnOfTheGapAhead();
        pairsAsManyAsOfBoth();
        likeOfHalf();
        likeOfThreeQuarters();
        changedStandsWhereAdded();
        stepNumbers();
        stepWhats();
        lettersRefused();
        lettersFewest();
        likeNumbers();
        likeBits();
        Check.end();
    }

    /** The STEPS, and that line() tells the same of each LINE. */
    private static void script(String text, String want) {
        LineScript script = Given.read(text);
        Check.dueText("the script of " + text, want, Given.steps(script));
        for (int step = 0; step < script.count(2); step++) {
            int old = script.step(step, 1);
            int neu = script.step(step, 2);
            int kept = script.step(step, 0) == 0 ? 1 : 0;
            if (old != NONE) {
                Check.due("line(0, " + old + ", 4) of " + text, neu, script.line(0, old, 4));
                Check.due("line(0, " + old + ", 5) of " + text, kept, script.line(0, old, 5));
            }
            if (neu != NONE) {
                Check.due("line(1, " + neu + ", 4) of " + text, old, script.line(1, neu, 4));
                Check.due("line(1, " + neu + ", 5) of " + text, kept, script.line(1, neu, 5));
            }
        }
    }

    private static void anchors(String text, int want) {
        Check.due("cost(3) of " + text, want, Given.read(text).cost(3));
    }

    private static void slides(String text, int want) {
        Check.due("cost(2) of " + text, want, Given.read(text).cost(2));
    }

    private static void gaps(String text, int want) {
        Check.due("cost(4) of " + text, want, Given.read(text).cost(4));
    }

    private static void sameLines() {
        Check.sentence("Two LINES are the SAME, if their letters are");
        script("abc;abc", "K0-0");
        script("a;a", "K0-0");
        String[] others = {"ab;abc", "abc;bc", "ab;ba", "a;aa", "aa;a", "aaa;aab", "aaa;baa", "aaa;aba"};
        for (String other : others) {
            Check.due("count(3) of " + other, 0, Given.read(other).count(3));
        }
    }

    private static void firstLines() {
        Check.sentence("the first LINES of both, as long as there are some and they are the SAME, are KEPT");
        script("a;a,b", "K0-0 A1");
        script("a,b;a", "K0-0 D1");
        script("a,b;a,b", "K0-0 K1-1");
        script(EIGHT + ";" + EIGHT, "K0-0 K1-1 K2-2 K3-3 K4-4 K5-5 K6-6 K7-7");
        // it goes on to the first that are not the SAME, and not behind them
        script("a,b,c,e;a,b,d,e", "K0-0 K1-1 D2 A2 K3-3");
        anchors("a,b,c,e;a,b,d,e", 0);
    }

    private static void lastLines() {
        Check.sentence("then the last ones of what is left, likewise");
        script("b,c;a,b,c", "A0 K0-1 K1-2");
        anchors("b,c;a,b,c", 0);
        script("a,b,c;b,c", "D0 K1-0 K2-1");
        anchors("a,b,c;b,c", 0);
        script("a,b,a;a,a", "K0-0 D1 K2-1");
        // of what is left: the NEW one is KEPT already, so it is a GAP behind, which slides
        slides("a,b,a;a", 1);
        script("a,b,a;a", "D0 D1 K2-0");
        slides("a;a,b,a", 1);
        script("a;a,b,a", "A0 A1 K0-2");
    }

    private static void emptyParts() {
        Check.sentence("if one part is empty, all of the other one is DROPPED (OLD), or ADDED (NEW)");
        script(";", "");
        gaps(";", 0);
        script("a;", "D0");
        script(";a", "A0");
        script(EIGHT + ";", "D0 D1 D2 D3 D4 D5 D6 D7");
        script(";" + EIGHT, "A0 A1 A2 A3 A4 A5 A6 A7");
        script("a,c,d,b;a,b", "K0-0 D1 D2 K3-1");
        script("a,b;a,c,d,b", "K0-0 A1 A2 K1-3");
    }

    private static void anchorsJustOnce() {
        Check.sentence("ANCHORS are LINES that are just once in the OLD part, and just once in the NEW part");
        script("a,b;b,c", "D0 K1-0 A1");
        anchors("a,b;b,c", 1);
        // twice in the OLD part
        script("b,b,a;c,b,c", "D0 A0 K1-1 D2 A2");
        anchors("b,b,a;c,b,c", 0);
        // twice in the NEW part
        script("c,b,c;b,b,a", "D0 K1-0 D2 A1 A2");
        anchors("c,b,c;b,b,a", 0);
        // once in one part, not in the other one
        anchors("a;b", 0);
        // twice on each SIDE, but once in what the first ones leave
        script("b,a,b;b,b,c", "K0-0 D1 K2-1 A2");
        anchors("b,a,b;b,b,c", 1);
        // twice on each SIDE, but once in what the last ones leave
        script("c,b,b;b,a,b", "D0 K1-0 A1 K2-2");
        anchors("c,b,b;b,a,b", 1);
    }

    private static void longestChain() {
        Check.sentence("Of all rows of ANCHORS in which the NEW numbers rise as the OLD ones do, the "
                + "longest one is taken");
        script("a,b,c;b,c,a", "D0 K1-0 K2-1 A2");
        anchors("a,b,c;b,c,a", 2);
        script("c,a,b;a,b,c", "D0 K1-0 K2-1 A2");
        // eight ANCHORS of which but one can be KEPT
        script("a,b,c,d,e,aa,bb,cc;cc,bb,aa,e,d,c,b,a",
                "A0 A1 A2 A3 A4 A5 A6 K0-7 D1 D2 D3 D4 D5 D6 D7");
        anchors("a,b,c,d,e,aa,bb,cc;cc,bb,aa,e,d,c,b,a", 1);
        // as many ANCHORS as there can be: one LINE on each SIDE is none
        anchors("bb,a,b,c,d,e,aa,ab;a,b,c,d,e,aa,ab,cc", 7);
    }

    private static void chainsAlike() {
        Check.sentence("of like ones the one with the least OLD number first, then the least second one, and so on");
        script("a,b;b,a", "A0 K0-1 D1");
        script("a,b,c;d,a,c,b", "A0 K0-1 A2 K1-3 D2");
        script("a,b,c,d;e,a,b,d,c", "A0 K0-1 K1-2 A3 K2-4 D3");
        // least OLD number, not least NEW number
        script("a,b,c,d;b,d,a,c", "A0 A1 K0-2 D1 K2-3 D3");
    }

    private static void chainOfOne() {
        Check.sentence("If there is one (of one at least), its ANCHORS are KEPT");
        // more could be KEPT without the ANCHOR
        script("a,a,c;c,a,a", "D0 D1 K2-0 A1 A2");
        anchors("a,a,c;c,a,a", 1);
        Check.due("cost(0) of a,a,c;c,a,a", 4, Given.read("a,a,c;c,a,a").cost(0));
        Check.due("cost(1) of a,a,c;c,a,a", 2, Given.read("a,a,c;c,a,a").cost(1));
    }

    private static void partsBetweenAnchors() {
        Check.sentence("the parts ahead of the first one, between each two, behind the last one are "
                + "MATCHED each by itself");
        // nothing between
        script("d,a,b;a,b,e", "D0 K1-0 K2-1 A2");
        anchors("d,a,b;a,b,e", 2);
        // ahead: an ANCHOR of that part; behind: nothing that is the SAME
        script("b,a,c,a;a,e,c,d", "D0 K1-0 A1 K2-2 D3 A3");
        anchors("b,a,c,a;a,e,c,d", 2);
        // between: first LINES of the part, which are no ANCHORS
        script("a,b,b,c,e;d,a,b,b,c", "A0 K0-1 K1-2 K2-3 K3-4 D4");
        anchors("a,b,b,c,e;d,a,b,b,c", 2);
        // between: last LINES of the part
        script("ab,c,b,a,a,e;c,d,a,a,e,bb", "D0 K1-0 D2 A1 K3-2 K4-3 K5-4 A5");
        anchors("ab,c,b,a,a,e;c,d,a,a,e,bb", 2);
        // an ANCHOR of a part of a part: "e" ahead of "d" ahead of "a"
        script("b,e,b,d,a,b,c,c;c,e,d,e,b,a,d,e", "D0 A0 K1-1 D2 K3-2 A3 A4 K4-5 D5 D6 D7 A6 A7");
        anchors("b,e,b,d,a,b,c,c;c,e,d,e,b,a,d,e", 3);
        // ahead, behind: LINES that are KEPT in these parts alone
        script("d,a,a,c;a,a,b,c,e", "D0 K1-0 K2-1 A2 K3-3 A4");
        anchors("d,a,a,c;a,a,b,c,e", 1);
        script("d,c,a,a;c,a,a,e", "D0 K1-0 K2-1 K3-2 A3");
        anchors("d,c,a,a;c,a,a,e", 1);
    }

    private static void mostInOrder() {
        Check.sentence("if by the others without the first OLD one as many can be KEPT as without the "
                + "first NEW one, or more");
        // as many
        script("a,a,b,b;b,b,a,a", "D0 D1 K2-0 K3-1 A2 A3");
        // more
        script("a,b,b;b,b,c,c", "D0 K1-0 K2-1 A2 A3");
        // less
        script("b,b,c,c;a,b,b", "A0 K0-1 K1-2 D2 D3");
        // the NEW part is at its end, and the one behind it is KEPT already
        script("c,a,a,e,d,e;a,a,e", "D0 K1-0 K2-1 D3 D4 K5-2");
        // none at all
        script("a,a;b,b", "D0 D1 A0 A1");
        script(EIGHT + ";" + Given.lines(8, "b"), "D0 D1 D2 D3 D4 D5 D6 D7 A0 A1 A2 A3 A4 A5 A6 A7");
    }

    private static void gapsEmptyAndMost() {
        Check.sentence("between KEPT ones all that are DROPPED, then all that are ADDED (these are a GAP)");
        gaps("a,b;a,b", 0);
        gaps("a;b", 1);
        gaps("a,b;a,c", 1);
        gaps("a,b;c,b", 1);
        LineScript ends = Given.read("c,a,c;d,a,d");
        Check.dueText("the script with GAPS at both ends", "D0 A0 K1-1 D2 A2", Given.steps(ends));
        int[] want = {0, 0, NONE, 1, 1};
        for (int step = 0; step < want.length; step++) {
            Check.due("step(" + step + ", 4)", want[step], ends.step(step, 4));
        }
        script(MOST_GAPS, "D0 K1-0 A1 K2-2 D3 K4-3 A4 K5-5 D6 K7-6 A7");
        gaps(MOST_GAPS, 6);
        Check.due("step(10, 4), the last GAP", 5, Given.read(MOST_GAPS).step(10, 4));
    }

    private static void slidesOfOneSort() {
        Check.sentence("if it has but DROPPED ones, or but ADDED ones");
        script("c,a;c,a,a", "K0-0 A1 K1-2");
        slides("c,a;c,a,a", 1);
        script("c,a,a;c,a", "K0-0 D1 K2-1");
        slides("c,a,a;c,a", 1);
        // of both sorts: the last ADDED one, the last DROPPED one is the SAME as that ahead
        script("a,b;a,c,a", "K0-0 D1 A1 A2");
        slides("a,b;a,c,a", 0);
        script("a,c,a;a,b", "K0-0 D1 D2 A1");
        slides("a,c,a;a,b", 0);
    }

    private static void slidesWithNoneAhead() {
        Check.sentence("and ahead of it there is a KEPT one whose LINE (of that SIDE) is the SAME as its last one");
        script("b,a;a", "D0 K1-0");
        slides("b,a;a", 0);
        script("a,a;", "D0 D1");
        slides("a,a;", 0);
        slides(";a,a", 0);
        // its first one is the SAME as that ahead, its last one is not
        script("a,c;a,a,b,c", "K0-0 A1 A2 K1-3");
        slides("a,c;a,a,b,c", 0);
        // the last one is the SAME as that ahead, its first one is not
        script("a,c;a,b,a,c", "A0 A1 K0-2 K1-3");
        slides("a,c;a,b,a,c", 1);
    }

    private static void slidesAsFarAsItGoes() {
        Check.sentence("again and again, as far as it goes. SLIDES are how often that was");
        script(SEVEN + ";" + EIGHT, "A0 K0-1 K1-2 K2-3 K3-4 K4-5 K5-6 K6-7");
        slides(SEVEN + ";" + EIGHT, 7);
        script(EIGHT + ";" + SEVEN, "D0 K1-0 K2-1 K3-2 K4-3 K5-4 K6-5 K7-6");
        slides(EIGHT + ";" + SEVEN, 7);
        script("a,b;a,b,a,b", "A0 A1 K0-2 K1-3");
        slides("a,b;a,b,a,b", 2);
        // as far, and no farther
        script("b,a,a,a;b,a,a,a,a", "K0-0 A1 K1-2 K2-3 K3-4");
        slides("b,a,a,a;b,a,a,a,a", 3);
    }

    private static void gapsThatMeet() {
        Check.sentence("if it comes to the GAP ahead of it then, they are one GAP, of which the DROPPED "
                + "ones come first, that slides no more");
        // ADDED ones come to DROPPED ones
        script("b,a,b;a,a,b,a", "D0 A0 K1-1 K2-2 A3");
        slides("b,a,b;a,a,b,a", 1);
        gaps("b,a,b;a,a,b,a", 2);
        // the same with a KEPT one ahead, which is the SAME as the last ADDED one
        script("a,b,a,b;a,a,a,b,a", "K0-0 D1 A1 K2-2 K3-3 A4");
        slides("a,b,a,b;a,a,a,b,a", 1);
        // of one sort: ADDED ones, DROPPED ones, though the one ahead is the SAME as the last one
        script("b,b,a;b,a,b,b,a,b", "K0-0 A1 A2 K1-3 K2-4 A5");
        slides("b,b,a;b,a,b,b,a,b", 1);
        gaps("b,b,a;b,a,b,b,a,b", 2);
        script("b,a,b,b,a;b,b,a,b", "K0-0 D1 D2 K3-1 K4-2 A3");
        slides("b,a,b,b,a;b,b,a,b", 1);
        gaps("b,a,b,b,a;b,b,a,b", 2);
        // they are a PAIR then; of two and one the first ones
        script("a,ab,c,a,c;a,a,a,c,a", "K0-0 D2 C1-1 K3-2 K4-3 A4");
        gaps("a,ab,c,a,c;a,a,a,c,a", 2);
        script("ab,b,ab,c;b,b,ab", "C0-0 K1-1 K2-2 D3");
        gaps("ab,b,ab,c;b,b,ab", 2);
    }

    private static void turnOfTheGapAhead() {
        Check.sentence("then it is the turn of the GAP ahead");
        // two that slide, one by one
        String two = "c,b,d,a,e,cc;dd,c,b,b,d,a,a,e";
        script(two, "A0 K0-1 A2 K1-3 K2-4 A5 K3-6 K4-7 D5");
        slides(two, 2);
        gaps(two, 4);
        // one that has come to the one ahead of it, then the one ahead of both
        String met = "b,a,c,b,c,a;b,b,a,b,b,c";
        script(met, "A0 K0-1 K1-2 D2 A3 K3-4 K4-5 D5");
        slides(met, 2);
        gaps(met, 3);
    }

    private static void pairsAsManyAsOfBoth() {
        Check.sentence("the first DROPPED one and the first ADDED one, and so on, as many as there are of "
                + "both, are a PAIR");
        script("ab,bc,cd;ac,bd,ce", "C0-0 C1-1 C2-2");
        script("ab,bc,cd;ac", "D1 D2 C0-0");
        script("ab;ac,bd,ce", "C0-0 A1 A2");
        // the second one is LIKE, but it is no PAIR
        script("d,ab;ac", "D0 D1 A0");
        script("ab;d,ac", "D0 A0 A1");
        // a GAP of one sort has none
        script("ab,e;e,ac", "D0 K1-0 A1");
    }

    private static void likeOfHalf() {
        Check.sentence("If LIKE of a PAIR is 0.5 or more, both are one STEP, CHANGED");
        for (String half : new String[] {"ab;ac", "ab;ba", "a;abc", "abc;c"}) {
            script(half, "C0-0");
            Check.due("step(0, 3) of " + half, HALF, Given.read(half).step(0, 3));
        }
        for (String less : new String[] {"ab;acd", "acd;ab", "abc;ade", "abc;cde", "abc;cba", "a;b"}) {
            script(less, "D0 A0");
            Check.due("step(0, 3) of " + less, 0, Given.read(less).step(0, 3));
            Check.due("step(1, 3) of " + less, 0, Given.read(less).step(1, 3));
        }
    }

    /** No two LINES are LIKE by 0.75 itself: 2/3 is the next below, 4/5 the next above. */
    private static void likeOfThreeQuarters() {
        Check.sentence("MENDED, if it is 0.75 or more");
        for (String less : new String[] {"a;ab", "ab;b", "abc;abd", "abc;bca", "aab;baa"}) {
            script(less, "C0-0");
            Check.due("step(0, 3) of " + less, TWO_THIRDS, Given.read(less).step(0, 3));
        }
        for (String more : new String[] {"ab;abc", "ab;acb", "abc;bc", "aa;aaa"}) {
            script(more, "M0-0");
            Check.due("step(0, 3) of " + more, FOUR_FIFTHS, Given.read(more).step(0, 3));
        }
    }

    private static void changedStandsWhereAdded() {
        Check.sentence("which stands where the ADDED one did; the DROPPED one is no STEP then");
        script("ab,c,d;e,cd", "D0 D2 A0 C1-1");
        LineScript script = Given.read("ab,c,d;e,cd");
        Check.due("count(2)", 4, script.count(2));
        Check.due("count(4)", 2, script.count(4));
        Check.due("line(0, 1, 4)", 1, script.line(0, 1, 4));
        Check.due("line(0, 1, 5)", 0, script.line(0, 1, 5));
    }

    private static void stepNumbers() {
        Check.sentence("Promise 7: UNKNOWN");
        LineScript none = Given.read(";");
        Check.due("step(0, 0) of none", UNKNOWN, none.step(0, 0));
        LineScript most = Given.read(EIGHT + ";" + Given.lines(8, "b"));
        Check.due("step(0, 0)", 1, most.step(0, 0));
        Check.due("step(15, 0)", 2, most.step(15, 0));
        Check.due("step(15, 2)", 7, most.step(15, 2));
        for (int wrong : new int[] {-1, 16, LEAST, MOST}) {
            Check.due("step(" + wrong + ", 0)", UNKNOWN, most.step(wrong, 0));
        }
        LineScript kept = Given.read("a,b;a,b");
        Check.due("step(1, 0)", 0, kept.step(1, 0));
        Check.due("step(2, 0)", UNKNOWN, kept.step(2, 0));
    }

    private static void stepWhats() {
        Check.sentence("Promise 7: what = 0 to 4; UNKNOWN; OUTSIDE");
        // M0-0 K1-1 D2 A2 K3-3 C4-4
        LineScript script = Given.read("ab,e,c,d,ab;abc,e,b,d,ac");
        int[][] want = {{4, 0, 0, FOUR_FIFTHS, 0}, {0, 1, 1, ONE, NONE}, {1, 2, NONE, 0, 1}, {2, NONE, 2, 0, 1},
            {0, 3, 3, ONE, NONE}, {3, 4, 4, HALF, 2}};
        for (int step = 0; step < want.length; step++) {
            for (int what = 0; what <= 4; what++) {
                Check.due("step(" + step + ", " + what + ")", want[step][what], script.step(step, what));
            }
        }
        for (int wrong : new int[] {-1, 5, LEAST, MOST}) {
            Check.due("step(0, " + wrong + ")", OUTSIDE, script.step(0, wrong));
            Check.due("step(6, " + wrong + "), UNKNOWN is told first", UNKNOWN, script.step(6, wrong));
            Check.due("step(-1, " + wrong + "), UNKNOWN is told first", UNKNOWN, script.step(-1, wrong));
        }
    }

    private static void lettersRefused() {
        Check.sentence("Promise 8: UNKNOWN: step; STATE: it is not CHANGED; OUTSIDE");
        LineScript script = Given.read("ab,e,c,d,ab;abc,e,b,d,ac");
        for (int wrong : new int[] {-1, 6, LEAST, MOST}) {
            Check.due("letters(" + wrong + ", 0)", UNKNOWN, script.letters(wrong, 0));
            Check.due("letters(" + wrong + ", 3), UNKNOWN is told first", UNKNOWN, script.letters(wrong, 3));
        }
        for (int step = 1; step <= 4; step++) {
            Check.due("letters(" + step + ", 0)", STATE, script.letters(step, 0));
            Check.due("letters(" + step + ", 3), STATE is told first", STATE, script.letters(step, 3));
            Check.due("letters(" + step + ", -1), STATE is told first", STATE, script.letters(step, -1));
        }
        for (int wrong : new int[] {-1, 3, LEAST, MOST}) {
            Check.due("letters(0, " + wrong + ")", OUTSIDE, script.letters(0, wrong));
            Check.due("letters(5, " + wrong + ")", OUTSIDE, script.letters(5, wrong));
        }
        Check.due("letters(0, 0), a MENDED one is CHANGED, too", 2, script.letters(0, 0));
        Check.due("letters(5, 0)", 1, script.letters(5, 0));
        Check.due("letters(0, 0) of no STEPS", UNKNOWN, Given.read(";").letters(0, 0));
    }

    private static void lettersOf(String text, int kept, int dropped, int added) {
        LineScript script = Given.read(text);
        Check.due("letters(0, 0) of " + text, kept, script.letters(0, 0));
        Check.due("letters(0, 1) of " + text, dropped, script.letters(0, 1));
        Check.due("letters(0, 2) of " + text, added, script.letters(0, 2));
    }

    private static void lettersFewest() {
        Check.sentence("Promise 8: letter by letter, as few as can be dropped and added");
        lettersOf("a;abc", 1, 0, 2);
        lettersOf("abc;c", 1, 2, 0);
        lettersOf("ab;ba", 1, 1, 1);
        lettersOf("abc;bcd", 2, 1, 1);
        lettersOf("abc;acb", 2, 1, 1);
        lettersOf("aab;baa", 2, 1, 1);
        lettersOf("ab;acb", 2, 0, 1);
        lettersOf("aaa;aa", 2, 1, 0);
    }

    private static void likeNumbers() {
        Check.sentence("Promise 9: UNKNOWN: old, neu");
        LineScript script = Given.read(Given.lines(8, "a") + ";a,b");
        Check.due("like(0, 0)", ONE, script.like(0, 0));
        Check.due("like(7, 1)", 0, script.like(7, 1));
        for (int wrong : new int[] {-1, 8, LEAST, MOST}) {
            Check.due("like(" + wrong + ", 0)", UNKNOWN, script.like(wrong, 0));
        }
        for (int wrong : new int[] {-1, 2, 7, LEAST, MOST}) {
            Check.due("like(0, " + wrong + ")", UNKNOWN, script.like(0, wrong));
        }
        Check.due("like(0, 0) of no OLD lines", UNKNOWN, Given.read(";a").like(0, 0));
        Check.due("like(0, 0) of no NEW lines", UNKNOWN, Given.read("a;").like(0, 0));
        Check.due("like(0, 0) of no TEXT", UNKNOWN, new LineScript().like(0, 0));
    }

    private static void likeOf(String text, int bits) {
        Check.due("like(0, 0) of " + text, bits, Given.read(text).like(0, 0));
    }

    /** All fractions that there are. */
    private static void likeBits() {
        Check.sentence("LIKE of two LINES is twice the most letters that both have in the same order, by "
                + "how many letters both have together, divided as fractions of single precision");
        likeOf("a;b", 0);
        likeOf("aaa;bbb", 0);
        likeOf("abc;cde", 0x3eaaaaab);
        likeOf("ab;acd", 0x3ecccccd);
        likeOf("ab;ba", HALF);
        likeOf("a;aaa", HALF);
        likeOf("abc;acb", TWO_THIRDS);
        likeOf("a;ab", TWO_THIRDS);
        likeOf("ab;abc", FOUR_FIFTHS);
        likeOf("a;a", ONE);
        likeOf("aa;aa", ONE);
        likeOf("abc;abc", ONE);
    }
}
