import java.util.Random;

/** The class and the model get the same calls and must answer the same. */
public final class ModelTest {
    private static final int OBJECTS = 1500, CALLS = 512;
    private static final int[] ODD = {Integer.MIN_VALUE, -1, 0, 1, 2, 3, 4, 5, 6, 7, 8, 9, 15, 16, 31, 97, 127,
        Integer.MAX_VALUE};

    private final Random random;
    private LineScript script;
    private Model model;

    private ModelTest(long seed) {
        random = new Random(seed);
    }

    public static void main(String[] args) {
        everyShortText();
        for (int seed = 0; seed < OBJECTS && !Check.failing(); seed++) {
            new ModelTest(seed).walk(seed);
        }
        Check.end();
    }

    /** All texts of up to four lines a side, each "a", "b" or "ab". */
    private static void everyShortText() {
        String[] lines = {"a", "b", "ab"};
        for (int oldCode = 0; oldCode < 256; oldCode++) {
            for (int newCode = 0; newCode < 256; newCode++) {
                String oldSide = sideOf(oldCode, lines);
                String newSide = sideOf(newCode, lines);
                if (oldSide != null && newSide != null) {
                    compareText(oldSide + ";" + newSide);
                }
            }
        }
    }

    /** Figures of 4, a 0 is no line; null if a line stands behind none. */
    private static String sideOf(int code, String[] lines) {
        StringBuilder side = new StringBuilder();
        for (int rest = code; rest > 0; rest /= 4) {
            if (rest % 4 == 0) {
                return null;
            }
            side.append(side.length() == 0 ? "" : ",").append(lines[rest % 4 - 1]);
        }
        return side.toString();
    }

    private static void compareText(String text) {
        LineScript script = new LineScript();
        Model model = new Model();
        for (char letter : text.toCharArray()) {
            script.letter(letter);
            model.letter(letter);
        }
        Check.due("text() of " + text, model.text(), script.text());
        Check.due("digest() of " + text, model.digest(), script.digest());
        Check.due("best(97) of " + text, model.best('a'), script.best('a'));
    }

    private void walk(int seed) {
        script = new LineScript();
        model = new Model();
        int letters = 1 + random.nextInt(5);
        int length = 1 + random.nextInt(3);
        StringBuilder calls = new StringBuilder("seed " + seed + ":");
        int made = 0;
        while (made < CALLS && !Check.failing()) {
            if (random.nextInt(60) == 0 || made == 20) {
                made += type(calls, letters, length);
            }
            one(calls, random.nextInt(24), letters, length);
            made++;
        }
    }

    private int type(StringBuilder calls, int letters, int length) {
        StringBuilder text = new StringBuilder();
        for (int side = 0; side < 2; side++) {
            int lines = random.nextInt(9);
            for (int line = 0; line < lines; line++) {
                text.append(line == 0 ? "" : ",").append(someLine(letters, length));
            }
            text.append(side == 0 ? ";" : "");
        }
        if (random.nextInt(5) == 0 && text.length() > 1) {
            text.setCharAt(random.nextInt(text.length()), ",;abcef".charAt(random.nextInt(7)));
        }
        same(calls, "blank()", model.blank(), script.blank());
        for (char letter : text.toString().toCharArray()) {
            same(calls, "letter(" + (int) letter + ")", model.letter(letter), script.letter(letter));
        }
        same(calls, "fault()", model.fault(), script.fault());
        same(calls, "text()", model.text(), script.text());
        same(calls, "digest()", model.digest(), script.digest());
        return text.length() + 4;
    }

    private String someLine(int letters, int length) {
        StringBuilder line = new StringBuilder();
        for (int i = 1 + random.nextInt(length); i > 0; i--) {
            line.append("abcde".charAt(random.nextInt(letters)));
        }
        return line.toString();
    }

    private int someNumber(int letters, int length) {
        if (random.nextInt(12) == 0) {
            return ODD[random.nextInt(ODD.length)];
        }
        int packed = 0;
        for (char letter : someLine(letters, length).toCharArray()) {
            packed = 128 * packed + letter;
        }
        return random.nextInt(20) == 0 ? packed * 128 + random.nextInt(128) : packed;
    }

    private int below(int bound) {
        return random.nextInt(15) == 0 ? ODD[random.nextInt(ODD.length)] : random.nextInt(bound);
    }

    private void same(StringBuilder calls, String call, long want, long got) {
        calls.append(' ').append(call);
        Check.due(want == got ? call : calls.toString(), want, got);
    }

    private void one(StringBuilder calls, int which, int letters, int length) {
        int a = below(9);
        int b = below(6);
        int c = below(6);
        int two = below(2);
        int number = someNumber(letters, length);
        switch (which) {
            case 0 -> letterSometimes(calls);
            case 1 -> same(calls, "fault()", model.fault(), script.fault());
            case 2 -> same(calls, "text()", model.text(), script.text());
            case 3 -> same(calls, "line(" + two + ", " + a + ", " + b + ")", model.line(two, a, b),
                    script.line(two, a, b));
            case 4 -> same(calls, "step(" + a + ", " + b + ")", model.step(a, b), script.step(a, b));
            case 5 -> same(calls, "letters(" + a + ", " + c + ")", model.letters(a, c), script.letters(a, c));
            case 6 -> same(calls, "like(" + a + ", " + b + ")", model.like(a, b), script.like(a, b));
            case 7, 8, 9 -> same(calls, "rack(" + a + ", " + b + ")", model.rack(a, b), script.rack(a, b));
            case 10 -> same(calls, "racked(" + b + ", " + c + ")", model.racked(b, c), script.racked(b, c));
            case 11, 12 -> same(calls, "put(" + two + ", " + a + ", " + number + ")", model.put(two, a, number),
                    script.put(two, a, number));
            case 13 -> same(calls, "take(" + two + ", " + a + ")", model.take(two, a), script.take(two, a));
            case 14 -> same(calls, "swap(" + two + ", " + a + ", " + b + ")", model.swap(two, a, b),
                    script.swap(two, a, b));
            case 15 -> same(calls, "turn()", model.turn(), script.turn());
            case 16 -> same(calls, "cost(" + b + ")", model.cost(b), script.cost(b));
            case 17 -> same(calls, "best(" + number + ")", model.best(number), script.best(number));
            case 18 -> same(calls, "all()", model.all(), script.all());
            case 19 -> drawSometimes(calls);
            case 20 -> same(calls, "image()", model.image(), script.image());
            case 21 -> same(calls, "restore()", model.restore(), script.restore());
            case 22 -> same(calls, "count(" + (a + two) + ")", model.count(a + two), script.count(a + two));
            default -> same(calls, "digest()", model.digest(), script.digest());
        }
    }

    private void letterSometimes(StringBuilder calls) {
        if (random.nextInt(10) == 0) {
            same(calls, "blank()", model.blank(), script.blank());
            return;
        }
        int code = random.nextInt(4) == 0 ? below(140) : "abcde,;".charAt(random.nextInt(7));
        same(calls, "letter(" + code + ")", model.letter(code), script.letter(code));
    }

    private void drawSometimes(StringBuilder calls) {
        int times = below(32);
        int seed = random.nextInt();
        int what = below(3);
        if (random.nextInt(4) != 0) {
            seed &= Integer.MAX_VALUE;
        }
        same(calls, "drawn(" + times + ", " + seed + ", " + what + ")", model.drawn(times, seed, what),
                script.drawn(times, seed, what));
    }
}
