import java.util.ArrayList;
import java.util.Collections;
import java.util.List;
import java.util.regex.Matcher;
import java.util.regex.Pattern;

/**
 * The document once more, in the slowest and most literal way that is at hand (texts as Strings, chains
 * by trying all, slides done on the list of steps), so that a mistake here and one there do not agree.
 */
final class Model {
    private static final int NONE = -1, UNKNOWN = -101, OUTSIDE = -102, STATE = -103, FULL = -104;
    private static final String LINE = "[a-e]{1,3}";
    private static final String SIDE = "(" + LINE + "(," + LINE + "){0,7})?";
    private static final Pattern TEXT = Pattern.compile(SIDE + ";" + SIDE);

    /** sort: 'K' KEPT, 'D' DROPPED, 'A' ADDED, 'C' CHANGED, 'M' MENDED. */
    record Item(char sort, int old, int neu, float like, int gap) {
        int kind() {
            return "KDACM".indexOf(sort);
        }
    }

    /** A comparison of two lists of lines, with all that is told of it. */
    static final class Comparison {
        final List<String> old;
        final List<String> neu;
        final List<int[]> pairs = new ArrayList<>();
        List<Item> items = new ArrayList<>();
        int anchors = 0;
        int slides = 0;
        int gaps = 0;

        Comparison(List<String> old, List<String> neu) {
            this.old = old;
            this.neu = neu;
            match(0, old.size(), 0, neu.size());
            pairs.sort((one, other) -> one[0] - other[0]);
            lay();
            slide();
            pairUp();
        }

        private void match(int os, int oe, int ns, int ne) {
            if (os < oe && ns < ne && old.get(os).equals(neu.get(ns))) {
                pairs.add(new int[] {os, ns});
                match(os + 1, oe, ns + 1, ne);
                return;
            }
            matchEnds(os, oe, ns, ne);
        }

        private void matchEnds(int os, int oe, int ns, int ne) {
            if (os < oe && ns < ne && old.get(oe - 1).equals(neu.get(ne - 1))) {
                pairs.add(new int[] {oe - 1, ne - 1});
                matchEnds(os, oe - 1, ns, ne - 1);
                return;
            }
            if (os == oe || ns == ne) {
                return;
            }
            List<int[]> chain = longestChain(anchorsOf(os, oe, ns, ne));
            if (chain.isEmpty()) {
                fewest(os, oe, ns, ne);
                return;
            }
            anchors += chain.size();
            int o = os;
            int n = ns;
            for (int[] anchor : chain) {
                pairs.add(anchor);
                match(o, anchor[0], n, anchor[1]);
                o = anchor[0] + 1;
                n = anchor[1] + 1;
            }
            match(o, oe, n, ne);
        }

        private List<int[]> anchorsOf(int os, int oe, int ns, int ne) {
            List<String> oldPart = old.subList(os, oe);
            List<String> newPart = neu.subList(ns, ne);
            List<int[]> found = new ArrayList<>();
            for (int o = os; o < oe; o++) {
                String line = old.get(o);
                if (Collections.frequency(oldPart, line) == 1 && Collections.frequency(newPart, line) == 1) {
                    found.add(new int[] {o, ns + newPart.indexOf(line)});
                }
            }
            return found;
        }

        private static List<int[]> longestChain(List<int[]> anchors) {
            List<int[]> best = new ArrayList<>();
            for (int mask = 1; mask < 1 << anchors.size(); mask++) {
                List<int[]> chain = new ArrayList<>();
                boolean rises = true;
                for (int i = 0; i < anchors.size(); i++) {
                    if ((mask >> i & 1) == 1) {
                        rises &= chain.isEmpty() || chain.get(chain.size() - 1)[1] < anchors.get(i)[1];
                        chain.add(anchors.get(i));
                    }
                }
                if (rises && isBetter(chain, best)) {
                    best = chain;
                }
            }
            return best;
        }

        private static boolean isBetter(List<int[]> chain, List<int[]> best) {
            if (chain.size() != best.size()) {
                return chain.size() > best.size();
            }
            for (int i = 0; i < chain.size(); i++) {
                if (chain.get(i)[0] != best.get(i)[0]) {
                    return chain.get(i)[0] < best.get(i)[0];
                }
            }
            return false;
        }

        private void fewest(int os, int oe, int ns, int ne) {
            if (os == oe || ns == ne) {
                return;
            }
            if (old.get(os).equals(neu.get(ns))) {
                pairs.add(new int[] {os, ns});
                fewest(os + 1, oe, ns + 1, ne);
            } else if (common(old.subList(os + 1, oe), neu.subList(ns, ne))
                    >= common(old.subList(os, oe), neu.subList(ns + 1, ne))) {
                fewest(os + 1, oe, ns, ne);
            } else {
                fewest(os, oe, ns + 1, ne);
            }
        }

        private void lay() {
            int o = 0;
            int n = 0;
            for (int i = 0; i <= pairs.size(); i++) {
                int oe = i < pairs.size() ? pairs.get(i)[0] : old.size();
                int ne = i < pairs.size() ? pairs.get(i)[1] : neu.size();
                while (o < oe) {
                    items.add(new Item('D', o++, NONE, 0, NONE));
                }
                while (n < ne) {
                    items.add(new Item('A', NONE, n++, 0, NONE));
                }
                if (i < pairs.size()) {
                    items.add(new Item('K', o++, n++, 1, NONE));
                }
            }
        }

        private boolean isKept(int i) {
            return items.get(i).sort == 'K';
        }

        private String lineOf(Item item, char sort) {
            return sort == 'D' ? old.get(item.old) : neu.get(item.neu);
        }

        private void slide() {
            int end = items.size();
            while (end > 0) {
                if (isKept(end - 1)) {
                    end--;
                    continue;
                }
                int start = end;
                while (start > 0 && !isKept(start - 1)) {
                    start--;
                }
                end = slideOne(start, end);
            }
        }

        /** Answers where the GAP begins in the end. */
        private int slideOne(int from, int to) {
            int start = from;
            int end = to;
            char sort = items.get(start).sort;
            if (items.get(end - 1).sort != sort) {
                return start;
            }
            while (start > 0) {
                Item ahead = items.get(start - 1);
                Item last = items.get(end - 1);
                if (!lineOf(ahead, sort).equals(lineOf(last, sort))) {
                    return start;
                }
                items.remove(end - 1);
                items.remove(start - 1);
                items.add(start - 1, sort == 'D'
                        ? new Item('D', ahead.old, NONE, 0, NONE) : new Item('A', NONE, ahead.neu, 0, NONE));
                items.add(end - 1, sort == 'D'
                        ? new Item('K', last.old, ahead.neu, 1, NONE) : new Item('K', ahead.old, last.neu, 1, NONE));
                start--;
                end--;
                slides++;
                if (start > 0 && !isKept(start - 1)) {
                    while (start > 0 && !isKept(start - 1)) {
                        start--;
                    }
                    items.subList(start, end).sort((one, other) -> one.kind() - other.kind());
                    return start;
                }
            }
            return start;
        }

        private void pairUp() {
            List<Item> done = new ArrayList<>();
            int i = 0;
            while (i < items.size()) {
                if (isKept(i)) {
                    done.add(items.get(i++));
                    continue;
                }
                List<Item> dropped = new ArrayList<>();
                List<Item> added = new ArrayList<>();
                for (; i < items.size() && !isKept(i); i++) {
                    (items.get(i).sort == 'D' ? dropped : added).add(items.get(i));
                }
                pairGap(dropped, added, done);
                gaps++;
            }
            items = done;
        }

        private void pairGap(List<Item> dropped, List<Item> added, List<Item> done) {
            List<Item> left = new ArrayList<>();
            List<Item> right = new ArrayList<>();
            for (int k = 0; k < Math.max(dropped.size(), added.size()); k++) {
                Item drop = k < dropped.size() ? dropped.get(k) : null;
                Item add = k < added.size() ? added.get(k) : null;
                float like = drop == null || add == null ? 0 : likeOf(old.get(drop.old), neu.get(add.neu));
                if (like >= 0.5f) {
                    right.add(new Item(like >= 0.75f ? 'M' : 'C', drop.old, add.neu, like, gaps));
                    continue;
                }
                if (drop != null) {
                    left.add(new Item('D', drop.old, NONE, 0, gaps));
                }
                if (add != null) {
                    right.add(new Item('A', NONE, add.neu, 0, gaps));
                }
            }
            done.addAll(left);
            done.addAll(right);
        }

        int cost() {
            return old.size() + neu.size() - 2 * pairs.size();
        }
    }

    private final StringBuilder page = new StringBuilder();
    private List<String> old = new ArrayList<>();
    private List<String> neu = new ArrayList<>();
    private List<String> imageOld = null;
    private List<String> imageNew = null;
    private Comparison now = new Comparison(old, neu);
    private final List<List<Integer>> racks = new ArrayList<>();
    private boolean hasText = false;
    private int reads = 0;

    Model() {
        for (int kind = 0; kind < 5; kind++) {
            racks.add(new ArrayList<>());
        }
    }

    static <T> int common(List<T> one, List<T> other) {
        int[][] most = new int[one.size() + 1][other.size() + 1];
        for (int i = 1; i <= one.size(); i++) {
            for (int j = 1; j <= other.size(); j++) {
                most[i][j] = one.get(i - 1).equals(other.get(j - 1))
                        ? most[i - 1][j - 1] + 1 : Math.max(most[i - 1][j], most[i][j - 1]);
            }
        }
        return most[one.size()][other.size()];
    }

    static int commonLetters(String one, String other) {
        List<Character> first = new ArrayList<>();
        List<Character> second = new ArrayList<>();
        for (char letter : one.toCharArray()) {
            first.add(letter);
        }
        for (char letter : other.toCharArray()) {
            second.add(letter);
        }
        return common(first, second);
    }

    static float likeOf(String one, String other) {
        return 2f * commonLetters(one, other) / (one.length() + other.length());
    }

    private List<String> side(int side) {
        return side == 0 ? old : neu;
    }

    private boolean hasLine(int side, int line) {
        return (side == 0 || side == 1) && line >= 0 && line < side(side).size();
    }

    private boolean hasStep(int step) {
        return step >= 0 && step < now.items.size();
    }

    private int changed() {
        now = new Comparison(old, neu);
        racks.forEach(List::clear);
        return now.items.size();
    }

    int letter(int code) {
        if (code < 1 || code > 126) {
            return OUTSIDE;
        }
        if (page.length() == 64) {
            return FULL;
        }
        page.append((char) code);
        return page.length();
    }

    int blank() {
        int had = page.length();
        page.setLength(0);
        return had;
    }

    int fault() {
        for (int end = 1; end <= page.length(); end++) {
            Matcher matcher = TEXT.matcher(page.substring(0, end));
            if (!matcher.matches() && !matcher.hitEnd()) {
                return end - 1;
            }
        }
        return page.length();
    }

    int text() {
        if (!TEXT.matcher(page).matches()) {
            return STATE;
        }
        int middle = page.indexOf(";");
        old = linesOf(page.substring(0, middle));
        neu = linesOf(page.substring(middle + 1));
        page.setLength(0);
        imageOld = null;
        hasText = true;
        reads++;
        changed();
        return old.size() + neu.size();
    }

    private static List<String> linesOf(String side) {
        return side.isEmpty() ? new ArrayList<>() : new ArrayList<>(List.of(side.split(",")));
    }

    int line(int side, int line, int what) {
        if (!hasLine(side, line)) {
            return UNKNOWN;
        }
        if (what < 0 || what > 5) {
            return OUTSIDE;
        }
        String letters = side(side).get(line);
        if (what == 0) {
            return letters.length();
        }
        if (what <= 3) {
            return what <= letters.length() ? letters.charAt(what - 1) : NONE;
        }
        for (Item item : now.items) {
            if ((side == 0 ? item.old : item.neu) == line) {
                int other = side == 0 ? item.neu : item.old;
                return what == 4 ? other : item.sort == 'K' ? 1 : 0;
            }
        }
        return what == 4 ? NONE : 0;
    }

    int step(int step, int what) {
        if (!hasStep(step)) {
            return UNKNOWN;
        }
        if (what < 0 || what > 4) {
            return OUTSIDE;
        }
        Item item = now.items.get(step);
        return new int[] {item.kind(), item.old, item.neu, Float.floatToIntBits(item.like), item.gap}[what];
    }

    int letters(int step, int what) {
        if (!hasStep(step)) {
            return UNKNOWN;
        }
        Item item = now.items.get(step);
        if (item.kind() < 3) {
            return STATE;
        }
        if (what < 0 || what > 2) {
            return OUTSIDE;
        }
        int both = commonLetters(old.get(item.old), neu.get(item.neu));
        return what == 0 ? both : (what == 1 ? old.get(item.old) : neu.get(item.neu)).length() - both;
    }

    int like(int oldLine, int newLine) {
        if (!hasLine(0, oldLine) || !hasLine(1, newLine)) {
            return UNKNOWN;
        }
        return Float.floatToIntBits(likeOf(old.get(oldLine), neu.get(newLine)));
    }

    int rack(int step, int kind) {
        if (!hasStep(step)) {
            return UNKNOWN;
        }
        if (kind < 0 || kind > 4) {
            return OUTSIDE;
        }
        if (racks.get(kind).size() == 3) {
            return FULL;
        }
        String taken = new String[] {"KDACM", "D", "ACM", "CM", "M"}[kind];
        if (taken.indexOf(now.items.get(step).sort) < 0) {
            return NONE;
        }
        racks.get(kind).add(step);
        return racks.get(kind).size();
    }

    int racked(int kind, int place) {
        if (kind < 0 || kind > 4 || place < 0 || place > 2) {
            return OUTSIDE;
        }
        return place < racks.get(kind).size() ? racks.get(kind).get(place) : NONE;
    }

    /** null, if the number is none of a LINE. */
    private static String lineOfNumber(int letters) {
        StringBuilder line = new StringBuilder();
        for (long rest = letters & 0xffffffffL; rest > 0; rest /= 128) {
            line.insert(0, (char) (rest % 128));
        }
        return line.toString().matches(LINE) ? line.toString() : null;
    }

    int put(int side, int place, int letters) {
        if ((side != 0 && side != 1) || place < 0 || place > side(side).size()) {
            return UNKNOWN;
        }
        String line = lineOfNumber(letters);
        if (line == null) {
            return OUTSIDE;
        }
        if (!hasText) {
            return STATE;
        }
        if (side(side).size() == 8) {
            return FULL;
        }
        side(side).add(place, line);
        return changed();
    }

    int take(int side, int line) {
        if (!hasLine(side, line)) {
            return UNKNOWN;
        }
        side(side).remove(line);
        return changed();
    }

    int swap(int side, int one, int other) {
        if (!hasLine(side, one) || !hasLine(side, other) || one == other) {
            return UNKNOWN;
        }
        Collections.swap(side(side), one, other);
        return changed();
    }

    int turn() {
        if (!hasText) {
            return STATE;
        }
        List<String> wasOld = old;
        old = neu;
        neu = wasOld;
        return changed();
    }

    int cost(int what) {
        if (what < 0 || what > 4) {
            return OUTSIDE;
        }
        if (!hasText) {
            return STATE;
        }
        int shortest = old.size() + neu.size() - 2 * common(old, neu);
        return new int[] {now.cost(), shortest, now.slides, now.anchors, now.gaps}[what];
    }

    int best(int letters) {
        String line = lineOfNumber(letters);
        if (line == null) {
            return OUTSIDE;
        }
        if (!hasText) {
            return STATE;
        }
        if (neu.size() == 8) {
            return FULL;
        }
        List<Integer> costs = new ArrayList<>();
        for (int place = 0; place <= neu.size(); place++) {
            List<String> with = new ArrayList<>(neu);
            with.add(place, line);
            costs.add(new Comparison(old, with).cost());
        }
        return costs.indexOf(Collections.min(costs));
    }

    long all() {
        if (!hasText) {
            return STATE;
        }
        int total = old.size() + neu.size();
        return Double.doubleToLongBits(total == 0 ? 1.0 : 2.0 * now.pairs.size() / total);
    }

    int drawn(int times, int seed, int what) {
        if (times < 1 || times > 30 || seed < 0 || what < 0 || what > 2) {
            return OUTSIDE;
        }
        long next = seed;
        int costs = 0;
        int slides = 0;
        for (int time = 0; time < times; time++) {
            List<String> lines = new ArrayList<>();
            for (int i = 0; i < 8; i++) {
                next = Math.floorMod(1103515245L * next + 12345L, 1L << 31);
                lines.add("abcde".substring((int) ((next >> 16) % 5)).substring(0, 1));
            }
            Comparison would = new Comparison(lines.subList(0, 4), lines.subList(4, 8));
            costs += would.cost();
            slides += would.slides;
        }
        return new int[] {costs, slides, (int) next}[what];
    }

    int image() {
        if (!hasText) {
            return STATE;
        }
        imageOld = new ArrayList<>(old);
        imageNew = new ArrayList<>(neu);
        return old.size() + neu.size();
    }

    int restore() {
        if (imageOld == null) {
            return STATE;
        }
        old = new ArrayList<>(imageOld);
        neu = new ArrayList<>(imageNew);
        changed();
        return old.size() + neu.size();
    }

    private int sorts(char sort) {
        return (int) now.items.stream().filter(item -> item.sort == sort).count();
    }

    int count(int what) {
        if (what < 0 || what > 10) {
            return OUTSIDE;
        }
        int onRacks = racks.stream().mapToInt(List::size).sum();
        return new int[] {old.size(), neu.size(), now.items.size(), sorts('K'), sorts('D'), sorts('A'), sorts('C'),
            sorts('M'), onRacks, page.length(), reads}[what];
    }

    long digest() {
        List<Long> numbers = new ArrayList<>();
        for (int side = 0; side < 2; side++) {
            for (int line = 0; line < side(side).size(); line++) {
                for (int what = 0; what <= 5; what++) {
                    numbers.add((long) line(side, line, what));
                }
            }
        }
        for (int step = 0; step < now.items.size(); step++) {
            for (int what = 0; what <= 4; what++) {
                numbers.add((long) step(step, what));
            }
        }
        for (int what = 0; hasText && what <= 4; what++) {
            numbers.add((long) cost(what));
        }
        if (hasText) {
            numbers.add(all());
        }
        for (int kind = 0; kind <= 4; kind++) {
            for (int place = 0; place <= 2; place++) {
                numbers.add((long) racked(kind, place));
            }
        }
        page.chars().forEach(code -> numbers.add((long) code));
        for (int what = 0; what <= 10; what++) {
            numbers.add((long) count(what));
        }
        long hash = 1409;
        for (long number : numbers) {
            hash = 31 * hash + number;
        }
        return hash;
    }
}
