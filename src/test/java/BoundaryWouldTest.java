import java.math.BigInteger;

/** The boundary cases of promises 16 to 19: COST and SHORTEST, BEST, ALL, DRAWN. */
public final class BoundaryWouldTest {
    private static final int OUTSIDE = -102, STATE = -103, FULL = -104;
    private static final int LEAST = Integer.MIN_VALUE, MOST = Integer.MAX_VALUE;
    private static final String SEVEN = Given.lines(7, "a"), EIGHT = Given.lines(8, "a"), OTHERS = Given.lines(8, "b");
    private static final BigInteger TWO_TO_31 = BigInteger.ONE.shiftLeft(31);

    public static void main(String[] args) {
        costWhats();
        costOfNoneAndAll();
        changedAreTwo();
        shortestAndCost();
        costOfNowAlone();
        bestLetters();
        bestOfLikeOnes();
        bestAtTheEnds();
        bestFull();
        allOfNoLines();
        allFromNoneToOne();
        allNoText();
        drawnTimes();
        drawnSeeds();
        drawnWhats();
        drawsByHand();
        drawsWrap();
        drawnIsOfAllTogether();
        Check.end();
    }

    private static void costs(String text, int... want) {
        LineScript script = Given.read(text);
        for (int what = 0; what <= 4; what++) {
            Check.due("cost(" + what + ") of " + text, want[what], script.cost(what));
        }
    }

    private static void costWhats() {
        Check.sentence("Promise 16: what = 0 to 4; OUTSIDE; STATE: no TEXT");
        LineScript script = Given.read("a;b");
        Check.due("cost(0)", 2, script.cost(0));
        Check.due("cost(4)", 1, script.cost(4));
        LineScript none = new LineScript();
        for (int wrong : new int[] {-1, 5, LEAST, MOST}) {
            Check.due("cost(" + wrong + ")", OUTSIDE, script.cost(wrong));
            Check.due("cost(" + wrong + ") of no TEXT, OUTSIDE is told first", OUTSIDE, none.cost(wrong));
        }
        Check.due("cost(0) of no TEXT", STATE, none.cost(0));
        Check.due("cost(4) of no TEXT", STATE, none.cost(4));
        Check.due("cost(0) of a TEXT of no LINES", 0, Given.read(";").cost(0));
    }

    private static void costOfNoneAndAll() {
        Check.sentence("COST: how many OLD LINES are not KEPT, and NEW ones, together");
        costs(";", 0, 0, 0, 0, 0);
        costs("a;", 1, 1, 0, 0, 1);
        costs(";a", 1, 1, 0, 0, 1);
        costs(EIGHT + ";", 8, 8, 0, 0, 1);
        costs(EIGHT + ";" + EIGHT, 0, 0, 0, 0, 0);
        costs(EIGHT + ";" + OTHERS, 16, 16, 0, 0, 1);
        costs(SEVEN + ";" + EIGHT, 1, 1, 7, 0, 1);
    }

    private static void changedAreTwo() {
        Check.sentence("COST: CHANGED ones are two");
        costs("ab;ac", 2, 2, 0, 0, 1);
        costs("ab;abc", 2, 2, 0, 0, 1);
        costs("ab,c;ac,c,d", 3, 3, 0, 1, 2);
    }

    private static void shortestAndCost() {
        Check.sentence("SHORTEST: how few LINES would be DROPPED and ADDED, if as many as can be were KEPT in order");
        costs("a,a,c;c,a,a", 4, 2, 0, 1, 2);
        costs(SEVEN + ",c;c," + SEVEN, 14, 2, 0, 1, 2);
        costs("a,a,b,b;b,b,a,a", 4, 4, 0, 0, 2);
    }

    private static void costOfNowAlone() {
        Check.sentence("Promise 16: 2 SLIDES, 3 how many ANCHORS were KEPT (in all parts), 4 how many GAPS");
        LineScript script = Given.read("c,a,b;c,a,a,b,a");
        int[] want = {2, 2, 1, 1, 2};
        for (int times = 0; times < 3; times++) {
            for (int what = 0; what <= 4; what++) {
                Check.due("cost(" + what + ") of c,a,b;c,a,a,b,a", want[what], script.cost(what));
            }
            script.turn();
            script.best('c');
            script.turn();
        }
        script.letter(';');
        script.text();
        for (int what = 0; what <= 4; what++) {
            Check.due("cost(" + what + ") behind a TEXT of no LINES", 0, script.cost(what));
        }
    }

    private static void best(String text, String line, int want) {
        LineScript script = Given.read(text);
        long before = script.digest();
        Check.due("best(" + line + ") of " + text, want, script.best(Given.packed(line)));
        Check.due("digest() behind best()", before, script.digest());
    }

    private static void bestLetters() {
        Check.sentence("Promise 17: OUTSIDE: letters (as for put()); STATE: no TEXT");
        LineScript none = new LineScript();
        LineScript script = Given.read("a;b");
        for (String line : new String[] {"a", "e", "aa", "ee", "aaa", "eee"}) {
            Check.due("best(" + line + ")", 0, script.best(Given.packed(line)));
            Check.due("best(" + line + ") of no TEXT", STATE, none.best(Given.packed(line)));
        }
        for (int wrong : new int[] {0, 'a' - 1, 'e' + 1, Given.packed("a`"), Given.packed("fa"), Given.packed("eef"),
            Given.packed("aaaa"), -1, LEAST, MOST}) {
            Check.due("best(" + wrong + ")", OUTSIDE, script.best(wrong));
            Check.due("best(" + wrong + ") of no TEXT, OUTSIDE is told first", OUTSIDE, none.best(wrong));
        }
    }

    private static void bestOfLikeOnes() {
        Check.sentence("BEST: of like ones the least");
        best("a,b;a,b", "c", 0);
        best(";a,b", "c", 0);
        best("a,b;b", "a", 0);
        best("a,a;a", "a", 0);
        // at places 1 and 2 all are KEPT
        best("c,a,a;c,a", "a", 1);
    }

    private static void bestAtTheEnds() {
        Check.sentence("BEST for a LINE: at which place of the NEW SIDE to put it in (as number 0, and so on)");
        best(";", "a", 0);
        best("a;", "a", 0);
        best("a;", "b", 0);
        best("a,b;b", "a", 0);
        best("a,b;a", "b", 1);
        best("a,b,c,d,e,aa,bb,cc;a,b,c,d,e,aa,bb", "cc", 7);
        best("cc,a,b,c,d,e,aa,bb;a,b,c,d,e,aa,bb", "cc", 0);
        best("a,b,c,d,cc,e,aa,bb;a,b,c,d,e,aa,bb", "cc", 4);
        // by COST, which the ANCHORS raise, not by SHORTEST
        best("a,a,c;c,a,a", "c", 3);
    }

    private static void bestFull() {
        Check.sentence("Promise 17: FULL: there are eight NEW LINES");
        Check.due("best(b) of seven", 0, Given.read("b;" + SEVEN).best('b'));
        LineScript script = Given.read(";" + EIGHT);
        Check.due("best(a) of eight", FULL, script.best('a'));
        Check.due("best(f) of eight, OUTSIDE is told first", OUTSIDE, script.best('f'));
        Check.due("best(a) of eight OLD ones", 0, Given.read(EIGHT + ";").best('a'));
        script.turn();
        Check.due("best(a) behind turn()", 0, script.best('a'));
        script.turn();
        script.take(1, 7);
        Check.due("best(a) behind take()", 0, script.best('a'));
    }

    private static void all(String text, long want) {
        Check.due("all() of " + text, want, Given.read(text).all());
    }

    private static void allOfNoLines() {
        Check.sentence("ALL of both SIDES: 1, if there are none");
        all(";", 0x3ff0000000000000L);
        LineScript script = Given.read("a;b");
        Check.due("all() of a;b", 0L, script.all());
        script.take(0, 0);
        Check.due("all() of ;b", 0L, script.all());
        script.take(1, 0);
        Check.due("all() when the last one is taken out", 0x3ff0000000000000L, script.all());
    }

    private static void allFromNoneToOne() {
        Check.sentence("ALL: twice as many as are KEPT, by how many LINES there are on both, divided as "
                + "fractions of double precision");
        all("a;", 0L);
        all(EIGHT + ";" + OTHERS, 0L);
        all("ab;abc", 0L);
        all("a;a", 0x3ff0000000000000L);
        all(EIGHT + ";" + EIGHT, 0x3ff0000000000000L);
        all("a,b;a,c", 0x3fe0000000000000L);
        all("a,b;a", 0x3fe5555555555555L);
        all("a,b,c;a", 0x3fe0000000000000L);
        all("a,b;a,c,d", 0x3fd999999999999aL);
        all("a,b,c;a,b", 0x3fe999999999999aL);
        all("a,b,b;a,c,c", 0x3fd5555555555555L);
        for (int oldLines = 1; oldLines <= 8; oldLines++) {
            for (int newLines = 1; newLines <= 8; newLines++) {
                double want = 2.0 * Math.min(oldLines, newLines) / (oldLines + newLines);
                all(Given.lines(oldLines, "a") + ";" + Given.lines(newLines, "a"), Double.doubleToLongBits(want));
            }
        }
    }

    private static void allNoText() {
        Check.sentence("Promise 18: STATE: no TEXT");
        LineScript script = Given.typed("a;a");
        Check.due("all()", STATE, script.all());
        script.text();
        Check.due("all() behind text()", 0x3ff0000000000000L, script.all());
    }

    private static void drawnTimes() {
        Check.sentence("Promise 19: OUTSIDE: times (1 to 30)");
        LineScript script = new LineScript();
        for (int wrong : new int[] {0, -1, 31, LEAST, MOST}) {
            for (int what = 0; what <= 2; what++) {
                Check.due("drawn(" + wrong + ", 1, " + what + ")", OUTSIDE, script.drawn(wrong, 1, what));
            }
        }
        drawnAsRead(1, 1);
        drawnAsRead(2, 1);
        drawnAsRead(29, 1);
        drawnAsRead(30, 1);
    }

    private static void drawnSeeds() {
        Check.sentence("Promise 19: OUTSIDE: seed (0 at least)");
        LineScript script = new LineScript();
        for (int wrong : new int[] {-1, -2, LEAST + 1, LEAST}) {
            for (int what = 0; what <= 2; what++) {
                Check.due("drawn(1, " + wrong + ", " + what + ")", OUTSIDE, script.drawn(1, wrong, what));
            }
        }
        for (int seed : new int[] {0, 1, MOST - 1, MOST}) {
            drawnAsRead(1, seed);
            drawnAsRead(30, seed);
        }
    }

    private static void drawnWhats() {
        Check.sentence("Promise 19: what = 0 COST, 1 SLIDES, 2 the SEED then. OUTSIDE: what");
        LineScript script = new LineScript();
        for (int wrong : new int[] {-1, 3, LEAST, MOST}) {
            Check.due("drawn(1, 1, " + wrong + ")", OUTSIDE, script.drawn(1, 1, wrong));
        }
        // no TEXT is asked for, and none comes of it
        Check.due("drawn(1, 1, 0)", 6, script.drawn(1, 1, 0));
        Check.due("digest() behind drawn()", new LineScript().digest(), script.digest());
    }

    /** By seed 1: 16838, 5758, 10113, 17515, 31051, 5627, 23010, 7419, by 5 the rests 3 3 3 0 1 2 0 4. */
    private static void drawsByHand() {
        Check.sentence("DRAWS: the next SEED each time: 1103515245 times it and 12345, its rest by 2 to the 31; "
                + "then that by 65536 (rounded down), its rest");
        LineScript script = Given.read("d,d,d,a;b,c,a,e");
        Check.due("drawn(1, 1, 0)", script.cost(0), script.drawn(1, 1, 0));
        Check.due("drawn(1, 1, 1)", script.cost(2), script.drawn(1, 1, 1));
        Check.due("drawn(1, 1, 2) by 65536", 7419, script.drawn(1, 1, 2) / 65536);
        Check.dueText("the text by seed 1", "d,d,d,a;b,c,a,e", drawnText(BigInteger.ONE));
        // the first DRAW by seed 0 is 12345 by 65536: 0, "a"
        Check.dueText("the first LINE by seed 0", "a", drawnText(BigInteger.ZERO).substring(0, 1));
    }

    private static void drawsWrap() {
        Check.sentence("its rest by 2 to the 31");
        LineScript script = new LineScript();
        for (int seed : new int[] {0, 1, 2, 65535, 65536, 1 << 30, MOST / 2, MOST - 1, MOST}) {
            int then = seedThen(BigInteger.valueOf(seed), 8).intValueExact();
            Check.due("drawn(1, " + seed + ", 2)", then, script.drawn(1, seed, 2));
            Check.due("drawn(2, " + seed + ", 2)", script.drawn(1, then, 2), script.drawn(2, seed, 2));
        }
    }

    private static void drawnIsOfAllTogether() {
        Check.sentence("COST of all of these together; SLIDES of all together");
        int slides = 0;
        for (int seed = 1000; seed < 1040; seed++) {
            slides += drawnAsRead(30, seed);
        }
        // so that the SLIDES above are not all none
        Check.due("there are SLIDES among them", 1, slides > 20 ? 1 : 0);
    }

    private static BigInteger next(BigInteger seed) {
        return seed.multiply(BigInteger.valueOf(1103515245L)).add(BigInteger.valueOf(12345L)).mod(TWO_TO_31);
    }

    private static BigInteger seedThen(BigInteger seed, int draws) {
        BigInteger now = seed;
        for (int draw = 0; draw < draws; draw++) {
            now = next(now);
        }
        return now;
    }

    private static String drawnText(BigInteger seed) {
        StringBuilder text = new StringBuilder();
        BigInteger now = seed;
        for (int draw = 0; draw < 8; draw++) {
            now = next(now);
            int rest = now.divide(BigInteger.valueOf(65536)).mod(BigInteger.valueOf(5)).intValueExact();
            text.append(draw == 0 ? "" : draw == 4 ? ";" : ",").append("abcde".charAt(rest));
        }
        return text.toString();
    }

    /** The TEXTS as they would be, read one by one; answers the SLIDES of all. */
    private static int drawnAsRead(int times, int seed) {
        BigInteger now = BigInteger.valueOf(seed);
        int costs = 0;
        int slides = 0;
        for (int time = 0; time < times; time++) {
            LineScript would = Given.read(drawnText(now));
            costs += would.cost(0);
            slides += would.cost(2);
            now = seedThen(now, 8);
        }
        LineScript script = new LineScript();
        Check.due("drawn(" + times + ", " + seed + ", 0)", costs, script.drawn(times, seed, 0));
        Check.due("drawn(" + times + ", " + seed + ", 1)", slides, script.drawn(times, seed, 1));
        Check.due("drawn(" + times + ", " + seed + ", 2)", now.intValueExact(), script.drawn(times, seed, 2));
        return slides;
    }
}
