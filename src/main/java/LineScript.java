/** Two texts compared line by line; ../shared/DOC.md says, promise by promise, what each call answers. */
public final class LineScript {
    public static final int NONE = -1, UNKNOWN = -101, OUTSIDE = -102, STATE = -103, FULL = -104;

    private static final int OLD = 0, NEW = 1, SIDES = 2;
    private static final int MOST_LINES = 8, LINE_LETTERS = 3, PAGE_LETTERS = 64, LAST_CODE = 126;
    private static final int LINE_NUMBERS = 6, STEP_NUMBERS = 5, COST_NUMBERS = 5, COUNT_NUMBERS = 11;
    private static final int STEP = 0, DROPPED = 1, ADDED = 2, CHANGED = 3, MENDED = 4, KINDS = 5;
    private static final int[] KIND_ABOVE = {NONE, STEP, STEP, ADDED, CHANGED};
    private static final int RACK_PLACES = 3;
    private static final int MOST_TIMES = 30, DRAWN_LINES = 4, DRAWN_LETTERS = 5, DRAWN_NUMBERS = 3;

    private final Page page = new Page();
    private final Match match = new Match();
    private final Sides sides = match.sides;
    private final Match trial = new Match();
    private final Sides imaged = new Sides();
    private final Likeness likeness = new Likeness();
    private final Script script = new Script();
    private final Racks racks = new Racks();
    private boolean hasText = false;
    private boolean hasImage = false;
    private int reads = 0;

    public LineScript() {
    }

    // ---- the text

    public int letter(int code) {
        if (code < 1 || code > LAST_CODE) {
            return OUTSIDE;
        }
        return page.append(code) ? page.size : FULL;
    }

    public int blank() {
        int had = page.size;
        page.size = 0;
        return had;
    }

    public int fault() {
        return page.firstFault();
    }

    public int text() {
        if (!page.isText()) {
            return STATE;
        }
        page.readInto(sides);
        page.size = 0;
        hasText = true;
        hasImage = false;
        reads++;
        compareAnew();
        return sides.total();
    }

    public int line(int side, int line, int what) {
        if (!sides.has(side, line)) {
            return UNKNOWN;
        }
        if (what < 0 || what >= LINE_NUMBERS) {
            return OUTSIDE;
        }
        int packed = sides.lines[side][line];
        if (what == 0) {
            return lettersIn(packed);
        }
        if (what <= LINE_LETTERS) {
            return codeAt(packed, what - 1);
        }
        int partner = match.partner[side][line];
        if (what == 5) {
            return partner == NONE ? 0 : 1;
        }
        return partner == NONE ? script.changedWith[side][line] : partner;
    }

    // ---- the script

    public int step(int step, int what) {
        if (!script.has(step)) {
            return UNKNOWN;
        }
        switch (what) {
            case 0:
                return script.kind[step];
            case 1:
                return script.old[step];
            case 2:
                return script.neu[step];
            case 3:
                return script.bits[step];
            case 4:
                return script.gap[step];
            default:
                return OUTSIDE;
        }
    }

    public int letters(int step, int what) {
        if (!script.has(step)) {
            return UNKNOWN;
        }
        if (!isOfKind(script.kind[step], CHANGED)) {
            return STATE;
        }
        int old = sides.lines[OLD][script.old[step]];
        int neu = sides.lines[NEW][script.neu[step]];
        int common = likeness.commonLetters(old, neu);
        switch (what) {
            case 0:
                return common;
            case 1:
                return lettersIn(old) - common;
            case 2:
                return lettersIn(neu) - common;
            default:
                return OUTSIDE;
        }
    }

    public int like(int old, int neu) {
        if (!sides.has(OLD, old) || !sides.has(NEW, neu)) {
            return UNKNOWN;
        }
        return singleBits(likeness.fraction(sides.lines[OLD][old], sides.lines[NEW][neu]));
    }

    public int rack(int step, int kind) {
        if (!script.has(step)) {
            return UNKNOWN;
        }
        if (kind < 0 || kind >= KINDS) {
            return OUTSIDE;
        }
        if (racks.size[kind] >= RACK_PLACES) {
            return FULL;
        }
        if (!isOfKind(script.kind[step], kind)) {
            return NONE;
        }
        return racks.append(kind, step);
    }

    public int racked(int kind, int place) {
        if (kind < 0 || kind >= KINDS || place < 0 || place >= RACK_PLACES) {
            return OUTSIDE;
        }
        return place < racks.size[kind] ? racks.steps[kind][place] : NONE;
    }

    // ---- what is done

    public int put(int side, int place, int letters) {
        if (!isSide(side) || place < 0 || place > sides.size[side]) {
            return UNKNOWN;
        }
        if (!isLine(letters)) {
            return OUTSIDE;
        }
        if (!hasText) {
            return STATE;
        }
        if (sides.size[side] >= MOST_LINES) {
            return FULL;
        }
        sides.insert(side, place, letters);
        return compareAnew();
    }

    public int take(int side, int line) {
        if (!sides.has(side, line)) {
            return UNKNOWN;
        }
        sides.remove(side, line);
        return compareAnew();
    }

    public int swap(int side, int one, int other) {
        if (!sides.has(side, one) || !sides.has(side, other) || one == other) {
            return UNKNOWN;
        }
        sides.exchangeLines(side, one, other);
        return compareAnew();
    }

    public int turn() {
        if (!hasText) {
            return STATE;
        }
        sides.exchangeSides();
        return compareAnew();
    }

    // ---- what would be

    public int cost(int what) {
        if (what < 0 || what >= COST_NUMBERS) {
            return OUTSIDE;
        }
        if (!hasText) {
            return STATE;
        }
        switch (what) {
            case 0:
                return match.notKept();
            case 1:
                return match.shortest();
            case 2:
                return match.slides;
            case 3:
                return match.anchors;
            default:
                return script.gaps;
        }
    }

    public int best(int letters) {
        if (!isLine(letters)) {
            return OUTSIDE;
        }
        if (!hasText) {
            return STATE;
        }
        if (sides.size[NEW] >= MOST_LINES) {
            return FULL;
        }
        int bestPlace = 0;
        int least = costOfPutting(0, letters);
        for (int place = 1; place <= sides.size[NEW]; place++) {
            int costThere = costOfPutting(place, letters);
            if (costThere < least) {
                least = costThere;
                bestPlace = place;
            }
        }
        return bestPlace;
    }

    public long all() {
        if (!hasText) {
            return STATE;
        }
        int total = sides.total();
        return doubleBits(total == 0 ? 1.0 : (double) (2 * match.kept()) / (double) total);
    }

    public int drawn(int times, int seed, int what) {
        if (times < 1 || times > MOST_TIMES || seed < 0 || what < 0 || what >= DRAWN_NUMBERS) {
            return OUTSIDE;
        }
        int next = seed;
        int costs = 0;
        int slides = 0;
        for (int time = 0; time < times; time++) {
            next = drawTrial(next);
            costs += trial.notKept();
            slides += trial.slides;
        }
        return what == 0 ? costs : what == 1 ? slides : next;
    }

    // ---- what is told of all

    public int image() {
        if (!hasText) {
            return STATE;
        }
        imaged.copyFrom(sides);
        hasImage = true;
        return sides.total();
    }

    public int restore() {
        if (!hasImage) {
            return STATE;
        }
        sides.copyFrom(imaged);
        compareAnew();
        return sides.total();
    }

    public int count(int what) {
        switch (what) {
            case 0:
            case 1:
                return sides.size[what];
            case 2:
                return script.size;
            case 3:
            case 4:
            case 5:
            case 6:
            case 7:
                return script.howManyOf(what - 3);
            case 8:
                return racks.total();
            case 9:
                return page.size;
            case 10:
                return reads;
            default:
                return OUTSIDE;
        }
    }

    public long digest() {
        long hash = digestOfScript(digestOfLines(1409));
        if (hasText) {
            for (int what = 0; what < COST_NUMBERS; what++) {
                hash = 31 * hash + cost(what);
            }
            hash = 31 * hash + all();
        }
        for (int kind = 0; kind < KINDS; kind++) {
            for (int place = 0; place < RACK_PLACES; place++) {
                hash = 31 * hash + racked(kind, place);
            }
        }
        for (int place = 0; place < page.size; place++) {
            hash = 31 * hash + page.codes[place];
        }
        for (int what = 0; what < COUNT_NUMBERS; what++) {
            hash = 31 * hash + count(what);
        }
        return hash;
    }

    private long digestOfLines(long start) {
        long hash = start;
        for (int side = 0; side < SIDES; side++) {
            for (int place = 0; place < sides.size[side]; place++) {
                for (int what = 0; what < LINE_NUMBERS; what++) {
                    hash = 31 * hash + line(side, place, what);
                }
            }
        }
        return hash;
    }

    private long digestOfScript(long start) {
        long hash = start;
        for (int place = 0; place < script.size; place++) {
            for (int what = 0; what < STEP_NUMBERS; what++) {
                hash = 31 * hash + step(place, what);
            }
        }
        return hash;
    }

    /** Every change of a LINE ends here, since RACKS hold STEPS of one SCRIPT only. */
    private int compareAnew() {
        match.compare();
        script.build(match, likeness);
        racks.clear();
        return script.size;
    }

    private int costOfPutting(int place, int letters) {
        trial.sides.copyFrom(sides);
        trial.sides.insert(NEW, place, letters);
        trial.compare();
        return trial.notKept();
    }

    /** Compares two drawn SIDES on trial, and answers the SEED behind the last DRAW. */
    private int drawTrial(int seed) {
        int next = seed;
        trial.sides.clear();
        for (int side = 0; side < SIDES; side++) {
            for (int place = 0; place < DRAWN_LINES; place++) {
                next = (int) ((1103515245L * next + 12345L) % 2147483648L);
                trial.sides.insert(side, place, 'a' + next / 65536 % DRAWN_LETTERS);
            }
        }
        trial.compare();
        return next;
    }

    private static boolean isSide(int side) {
        return side == OLD || side == NEW;
    }

    private static boolean isLetter(int code) {
        return code >= 'a' && code <= 'e';
    }

    /** A LINE is held as put() is told it: the codes of its letters as figures of 128. */
    private static boolean isLine(int packed) {
        int rest = packed;
        for (int place = 0; place < LINE_LETTERS && isLetter(rest & 127); place++) {
            rest >>= 7;
            if (rest == 0) {
                return true;
            }
        }
        return false;
    }

    private static int lettersIn(int packed) {
        return packed < 128 ? 1 : packed < 128 * 128 ? 2 : 3;
    }

    private static int codeAt(int packed, int place) {
        int behind = lettersIn(packed) - 1 - place;
        return behind < 0 ? NONE : packed >> 7 * behind & 127;
    }

    private static boolean isOfKind(int stepKind, int kind) {
        int above = stepKind;
        for (int level = 0; level < KINDS && above >= 0 && above < KINDS; level++) {
            if (above == kind) {
                return true;
            }
            above = KIND_ABOVE[above];
        }
        return false;
    }

    /** The bits of a fraction from 0 to 1, found by doubling, which is exact. */
    private static int singleBits(float fraction) {
        if (!(fraction > 0.0f)) {
            return 0;
        }
        float scaled = fraction;
        int exponent = 127 + 23;
        for (int doubled = 0; doubled < 127 && scaled < 8388608.0f; doubled++) {
            scaled = scaled * 2.0f;
            exponent--;
        }
        return exponent << 23 | (int) scaled & (1 << 23) - 1;
    }

    /** As singleBits(), of a fraction of double precision. */
    private static long doubleBits(double fraction) {
        if (!(fraction > 0.0)) {
            return 0L;
        }
        double scaled = fraction;
        long exponent = 1023 + 52;
        for (int doubled = 0; doubled < 1023 && scaled < 4503599627370496.0; doubled++) {
            scaled = scaled * 2.0;
            exponent--;
        }
        return exponent << 52 | (long) scaled & (1L << 52) - 1;
    }

    /** THE PAGE: letters that have come and are not read yet. */
    private static final class Page {
        private final int[] codes = new int[PAGE_LETTERS];
        private final Reader reader = new Reader();
        private int size = 0;

        private boolean append(int code) {
            if (size >= PAGE_LETTERS) {
                return false;
            }
            codes[size] = code;
            size++;
            return true;
        }

        private int firstFault() {
            reader.begin();
            for (int place = 0; place < size; place++) {
                if (!reader.takes(codes[place])) {
                    return place;
                }
            }
            return size;
        }

        private boolean isText() {
            return firstFault() == size && reader.mayEnd();
        }

        private void readInto(Sides sides) {
            sides.clear();
            int side = OLD;
            int packed = 0;
            for (int place = 0; place < size; place++) {
                if (isLetter(codes[place])) {
                    packed = packed << 7 | codes[place];
                } else {
                    sides.appendLine(side, packed);
                    packed = 0;
                    side = codes[place] == ';' ? NEW : side;
                }
            }
            sides.appendLine(side, packed);
        }
    }

    /** Where in a TEXT one is, letter by letter; whatever it takes can go on to be a TEXT. */
    private static final class Reader {
        private int side;
        private int lines;
        private int letters;

        private void begin() {
            side = OLD;
            lines = 0;
            letters = 0;
        }

        private boolean takes(int code) {
            if (isLetter(code)) {
                return takesLetter();
            }
            if (code == ',') {
                return takesComma();
            }
            return code == ';' && takesSemicolon();
        }

        private boolean takesLetter() {
            if (letters == LINE_LETTERS) {
                return false;
            }
            if (letters == 0) {
                lines++;
            }
            letters++;
            return true;
        }

        private boolean takesComma() {
            if (letters == 0 || lines == MOST_LINES) {
                return false;
            }
            letters = 0;
            return true;
        }

        private boolean takesSemicolon() {
            if (side == NEW || !sideMayEnd()) {
                return false;
            }
            side = NEW;
            lines = 0;
            letters = 0;
            return true;
        }

        private boolean mayEnd() {
            return side == NEW && sideMayEnd();
        }

        private boolean sideMayEnd() {
            return lines == 0 || letters > 0;
        }
    }

    /** The LINES of both SIDES. */
    private static final class Sides {
        private final int[][] lines = new int[SIDES][MOST_LINES];
        private final int[] size = new int[SIDES];

        private boolean has(int side, int line) {
            return isSide(side) && line >= 0 && line < size[side];
        }

        private int total() {
            return size[OLD] + size[NEW];
        }

        private void clear() {
            size[OLD] = 0;
            size[NEW] = 0;
        }

        private void copyFrom(Sides other) {
            for (int side = 0; side < SIDES; side++) {
                size[side] = other.size[side];
                System.arraycopy(other.lines[side], 0, lines[side], 0, MOST_LINES);
            }
        }

        /** No letters are no LINE: so a SIDE without any is read. */
        private void appendLine(int side, int packed) {
            if (packed != 0) {
                insert(side, size[side], packed);
            }
        }

        private void insert(int side, int place, int packed) {
            if (!isSide(side) || place < 0 || place > size[side] || size[side] >= MOST_LINES) {
                return;
            }
            int[] row = lines[side];
            for (int behind = size[side]; behind > place; behind--) {
                row[behind] = row[behind - 1];
            }
            row[place] = packed;
            size[side]++;
        }

        private void remove(int side, int line) {
            if (!has(side, line)) {
                return;
            }
            int[] row = lines[side];
            size[side]--;
            for (int place = line; place < size[side]; place++) {
                row[place] = row[place + 1];
            }
        }

        private void exchangeLines(int side, int one, int other) {
            if (!has(side, one) || !has(side, other)) {
                return;
            }
            int first = lines[side][one];
            lines[side][one] = lines[side][other];
            lines[side][other] = first;
        }

        private void exchangeSides() {
            for (int place = 0; place < MOST_LINES; place++) {
                int old = lines[OLD][place];
                lines[OLD][place] = lines[NEW][place];
                lines[NEW][place] = old;
            }
            int oldSize = size[OLD];
            size[OLD] = size[NEW];
            size[NEW] = oldSize;
        }
    }

    /** The most that parts of two rows have in the same order, from each place of both on. */
    private static final class Common {
        private final int[][] from = new int[MOST_LINES + 1][MOST_LINES + 1];

        /** The parts lie inside rows of MOST_LINES at most, and their ends are not ahead of their starts. */
        private int most(int[] one, int oneStart, int oneEnd, int[] other, int otherStart, int otherEnd) {
            for (int i = oneEnd; i >= oneStart; i--) {
                for (int j = otherEnd; j >= otherStart; j--) {
                    if (i == oneEnd || j == otherEnd) {
                        from[i][j] = 0;
                    } else if (one[i] == other[j]) {
                        from[i][j] = from[i + 1][j + 1] + 1;
                    } else {
                        from[i][j] = Math.max(from[i + 1][j], from[i][j + 1]);
                    }
                }
            }
            return from[oneStart][otherStart];
        }
    }

    /** LIKE of two LINES. */
    private static final class Likeness {
        private final Common common = new Common();
        private final int[] oldCodes = new int[LINE_LETTERS];
        private final int[] newCodes = new int[LINE_LETTERS];

        private int commonLetters(int old, int neu) {
            for (int place = 0; place < LINE_LETTERS; place++) {
                oldCodes[place] = codeAt(old, place);
                newCodes[place] = codeAt(neu, place);
            }
            return common.most(oldCodes, 0, lettersIn(old), newCodes, 0, lettersIn(neu));
        }

        private float fraction(int old, int neu) {
            int together = lettersIn(old) + lettersIn(neu);
            if (together <= 0) {
                return 0.0f;
            }
            return (float) (2 * commonLetters(old, neu)) / (float) together;
        }
    }

    /** Which LINES of two SIDES are KEPT with which: by MATCH, and then by the SLIDES. */
    private static final class Match {
        private final Sides sides = new Sides();
        private final int[][] partner = new int[SIDES][MOST_LINES];
        private final Common common = new Common();
        private final int[] anchorWith = new int[MOST_LINES];
        private final int[] chainFrom = new int[MOST_LINES];
        private final int[] gapStart = new int[SIDES];
        private final int[] gapEnd = new int[SIDES];
        private int anchors = 0;
        private int slides = 0;

        private void compare() {
            anchors = 0;
            slides = 0;
            for (int place = 0; place < MOST_LINES; place++) {
                partner[OLD][place] = NONE;
                partner[NEW][place] = NONE;
            }
            matchParts(0, sides.size[OLD], 0, sides.size[NEW], 0);
            slideGaps();
        }

        private int kept() {
            int pairs = 0;
            for (int place = 0; place < sides.size[OLD]; place++) {
                pairs += partner[OLD][place] == NONE ? 0 : 1;
            }
            return pairs;
        }

        private int notKept() {
            return sides.total() - 2 * kept();
        }

        private int shortest() {
            int most = common.most(sides.lines[OLD], 0, sides.size[OLD], sides.lines[NEW], 0, sides.size[NEW]);
            return sides.total() - 2 * most;
        }

        private void keep(int old, int neu) {
            partner[OLD][old] = neu;
            partner[NEW][neu] = old;
        }

        private boolean same(int old, int neu) {
            return sides.lines[OLD][old] == sides.lines[NEW][neu];
        }

        /** Each level below has at least an anchor less on both SIDES, so MOST_LINES levels are enough. */
        private void matchParts(int oldFirst, int oldLast, int newFirst, int newLast, int depth) {
            if (depth > MOST_LINES) {
                return;
            }
            int oldStart = oldFirst;
            int newStart = newFirst;
            while (oldStart < oldLast && newStart < newLast && same(oldStart, newStart)) {
                keep(oldStart, newStart);
                oldStart++;
                newStart++;
            }
            int oldEnd = oldLast;
            int newEnd = newLast;
            while (oldEnd > oldStart && newEnd > newStart && same(oldEnd - 1, newEnd - 1)) {
                oldEnd--;
                newEnd--;
                keep(oldEnd, newEnd);
            }
            if (oldStart == oldEnd || newStart == newEnd) {
                return;
            }
            findAnchors(oldStart, oldEnd, newStart, newEnd);
            if (keepLongestChain(oldStart, oldEnd)) {
                matchBetweenAnchors(oldStart, oldEnd, newStart, newEnd, depth);
            } else {
                keepMost(oldStart, oldEnd, newStart, newEnd);
            }
        }

        private void findAnchors(int oldStart, int oldEnd, int newStart, int newEnd) {
            for (int old = oldStart; old < oldEnd; old++) {
                int letters = sides.lines[OLD][old];
                boolean once = onlyPlaceOf(letters, OLD, oldStart, oldEnd) == old;
                anchorWith[old] = once ? onlyPlaceOf(letters, NEW, newStart, newEnd) : NONE;
            }
        }

        /** NONE, if the letters are not there, or more than once. */
        private int onlyPlaceOf(int letters, int side, int start, int end) {
            int found = NONE;
            for (int place = start; place < end; place++) {
                if (sides.lines[side][place] == letters) {
                    if (found != NONE) {
                        return NONE;
                    }
                    found = place;
                }
            }
            return found;
        }

        private boolean keepLongestChain(int oldStart, int oldEnd) {
            int needed = measureChains(oldStart, oldEnd);
            boolean some = needed > 0;
            int lastNew = NONE;
            // The first that begins a chain as long as is needed has the least OLD number of all such.
            for (int old = oldStart; old < oldEnd; old++) {
                if (anchorWith[old] > lastNew && chainFrom[old] == needed) {
                    lastNew = anchorWith[old];
                    keep(old, lastNew);
                    anchors++;
                    needed--;
                }
            }
            return some;
        }

        /** Tells of each anchor how long the longest chain is that begins with it; answers the longest of all. */
        private int measureChains(int oldStart, int oldEnd) {
            int longest = 0;
            for (int old = oldEnd - 1; old >= oldStart; old--) {
                chainFrom[old] = 0;
                if (anchorWith[old] == NONE) {
                    continue;
                }
                int behind = 0;
                for (int later = old + 1; later < oldEnd; later++) {
                    if (anchorWith[later] > anchorWith[old]) {
                        behind = Math.max(behind, chainFrom[later]);
                    }
                }
                chainFrom[old] = behind + 1;
                longest = Math.max(longest, chainFrom[old]);
            }
            return longest;
        }

        private void matchBetweenAnchors(int oldStart, int oldEnd, int newStart, int newEnd, int depth) {
            int oldNext = oldStart;
            int newNext = newStart;
            // What is KEPT from oldNext on is still but the anchors: the parts behind have not been matched.
            for (int old = oldStart; old < oldEnd; old++) {
                int neu = partner[OLD][old];
                if (neu != NONE) {
                    matchParts(oldNext, old, newNext, neu, depth + 1);
                    oldNext = old + 1;
                    newNext = neu + 1;
                }
            }
            matchParts(oldNext, oldEnd, newNext, newEnd, depth + 1);
        }

        private void keepMost(int oldStart, int oldEnd, int newStart, int newEnd) {
            common.most(sides.lines[OLD], oldStart, oldEnd, sides.lines[NEW], newStart, newEnd);
            int old = oldStart;
            int neu = newStart;
            while (old < oldEnd && neu < newEnd) {
                if (same(old, neu)) {
                    keep(old, neu);
                    old++;
                    neu++;
                } else if (common.from[old + 1][neu] >= common.from[old][neu + 1]) {
                    old++;
                } else {
                    neu++;
                }
            }
        }

        /** Goes over the GAPS from the last one back; an empty one, between KEPT neighbours, is passed. */
        private void slideGaps() {
            gapStart[OLD] = sides.size[OLD] + 1;
            gapStart[NEW] = sides.size[NEW] + 1;
            for (int turns = 0; turns <= MOST_LINES && gapStart[OLD] > 0 && gapStart[NEW] > 0; turns++) {
                for (int side = 0; side < SIDES; side++) {
                    gapEnd[side] = gapStart[side] - 1;
                    gapStart[side] = gapEnd[side];
                }
                widenGap();
                slideGap();
                // If it has come to the GAP ahead, they are one now.
                widenGap();
            }
        }

        private void widenGap() {
            for (int side = 0; side < SIDES; side++) {
                while (gapStart[side] > 0 && partner[side][gapStart[side] - 1] == NONE) {
                    gapStart[side]--;
                }
            }
        }

        private void slideGap() {
            boolean drops = gapStart[OLD] < gapEnd[OLD];
            boolean adds = gapStart[NEW] < gapEnd[NEW];
            if (drops == adds) {
                return;
            }
            int side = drops ? OLD : NEW;
            for (int times = 0; times < MOST_LINES && maySlide(side); times++) {
                slideOnce(side);
            }
        }

        /** Once the GAP has come to the one ahead of it, what is ahead is not KEPT. */
        private boolean maySlide(int side) {
            if (gapStart[OLD] < 1 || gapStart[NEW] < 1) {
                return false;
            }
            if (partner[OLD][gapStart[OLD] - 1] == NONE || partner[NEW][gapStart[NEW] - 1] == NONE) {
                return false;
            }
            int[] row = sides.lines[side];
            return row[gapStart[side] - 1] == row[gapEnd[side] - 1];
        }

        private void slideOnce(int side) {
            for (int each = 0; each < SIDES; each++) {
                gapStart[each]--;
                gapEnd[each]--;
            }
            int other = SIDES - 1 - side;
            partner[side][gapStart[side]] = NONE;
            partner[side][gapEnd[side]] = gapEnd[other];
            partner[other][gapEnd[other]] = gapEnd[side];
            slides++;
        }
    }

    /** The STEPS in order. */
    private static final class Script {
        private final int[] kind = new int[SIDES * MOST_LINES];
        private final int[] old = new int[SIDES * MOST_LINES];
        private final int[] neu = new int[SIDES * MOST_LINES];
        private final int[] bits = new int[SIDES * MOST_LINES];
        private final int[] gap = new int[SIDES * MOST_LINES];
        private final int[][] changedWith = new int[SIDES][MOST_LINES];
        private int size = 0;
        private int gaps = 0;

        private boolean has(int step) {
            return step >= 0 && step < size;
        }

        private int howManyOf(int wanted) {
            int found = 0;
            for (int step = 0; step < size; step++) {
                found += kind[step] == wanted ? 1 : 0;
            }
            return found;
        }

        private void build(Match match, Likeness likeness) {
            size = 0;
            gaps = 0;
            Sides sides = match.sides;
            for (int place = 0; place < MOST_LINES; place++) {
                changedWith[OLD][place] = NONE;
                changedWith[NEW][place] = NONE;
            }
            int oldStart = 0;
            int newStart = 0;
            for (int turns = 0; turns <= MOST_LINES; turns++) {
                int oldEnd = nextKept(match, OLD, oldStart);
                int newEnd = nextKept(match, NEW, newStart);
                if (oldStart < oldEnd || newStart < newEnd) {
                    findChanged(sides, likeness, oldStart, oldEnd, newStart, newEnd);
                    addDropped(oldStart, oldEnd);
                    addAdded(sides, likeness, newStart, newEnd);
                    gaps++;
                }
                if (oldEnd >= sides.size[OLD] || newEnd >= sides.size[NEW]) {
                    return;
                }
                addStep(STEP, oldEnd, newEnd, 1.0f, NONE);
                oldStart = oldEnd + 1;
                newStart = newEnd + 1;
            }
        }

        private int nextKept(Match match, int side, int start) {
            int place = start;
            while (place < match.sides.size[side] && match.partner[side][place] == NONE) {
                place++;
            }
            return place;
        }

        private void findChanged(Sides sides, Likeness likeness,
                int oldStart, int oldEnd, int newStart, int newEnd) {
            int pairs = Math.min(oldEnd - oldStart, newEnd - newStart);
            for (int pair = 0; pair < pairs; pair++) {
                int oldLine = oldStart + pair;
                int newLine = newStart + pair;
                if (likeness.fraction(sides.lines[OLD][oldLine], sides.lines[NEW][newLine]) >= 0.5f) {
                    changedWith[OLD][oldLine] = newLine;
                    changedWith[NEW][newLine] = oldLine;
                }
            }
        }

        private void addDropped(int start, int end) {
            for (int line = start; line < end; line++) {
                if (changedWith[OLD][line] == NONE) {
                    addStep(DROPPED, line, NONE, 0.0f, gaps);
                }
            }
        }

        private void addAdded(Sides sides, Likeness likeness, int start, int end) {
            for (int line = start; line < end; line++) {
                int oldLine = changedWith[NEW][line];
                if (oldLine == NONE) {
                    addStep(ADDED, NONE, line, 0.0f, gaps);
                } else {
                    float like = likeness.fraction(sides.lines[OLD][oldLine], sides.lines[NEW][line]);
                    addStep(like >= 0.75f ? MENDED : CHANGED, oldLine, line, like, gaps);
                }
            }
        }

        private void addStep(int stepKind, int oldLine, int newLine, float like, int inGap) {
            if (size >= kind.length) {
                return;
            }
            kind[size] = stepKind;
            old[size] = oldLine;
            neu[size] = newLine;
            bits[size] = singleBits(like);
            gap[size] = inGap;
            size++;
        }
    }

    /** A RACK of each KIND. */
    private static final class Racks {
        private final int[][] steps = new int[KINDS][RACK_PLACES];
        private final int[] size = new int[KINDS];

        private void clear() {
            for (int kind = 0; kind < KINDS; kind++) {
                size[kind] = 0;
            }
        }

        private int append(int kind, int step) {
            if (kind < 0 || kind >= KINDS || size[kind] >= RACK_PLACES) {
                return FULL;
            }
            steps[kind][size[kind]] = step;
            size[kind]++;
            return size[kind];
        }

        private int total() {
            int sum = 0;
            for (int kind = 0; kind < KINDS; kind++) {
                sum += size[kind];
            }
            return sum;
        }
    }
}
