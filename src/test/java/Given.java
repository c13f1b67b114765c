/** Objects that have come so far by calls, and what they show, as words. */
final class Given {
    private static final int NONE = -1;

    private Given() {
    }

    static LineScript typed(String page) {
        LineScript script = new LineScript();
        type(script, page);
        return script;
    }

    static void type(LineScript script, String page) {
        for (char letter : page.toCharArray()) {
            script.letter(letter);
        }
    }

    static LineScript read(String text) {
        LineScript script = typed(text);
        script.text();
        return script;
    }

    static int packed(String line) {
        int number = 0;
        for (char letter : line.toCharArray()) {
            number = 128 * number + letter;
        }
        return number;
    }

    /** So many times the line, with "," between. */
    static String lines(int times, String line) {
        return (line + ",").repeat(times).replaceAll(",$", "");
    }

    /** The script as words: K0-1 KEPT, D0 DROPPED, A0 ADDED, C0-1 CHANGED, M0-1 MENDED. */
    static String steps(LineScript script) {
        StringBuilder words = new StringBuilder();
        for (int step = 0; step < script.count(2); step++) {
            int old = script.step(step, 1);
            int neu = script.step(step, 2);
            words.append(step == 0 ? "" : " ").append("KDACM".charAt(script.step(step, 0)));
            words.append(old == NONE ? "" : old).append(old == NONE || neu == NONE ? "" : "-");
            words.append(neu == NONE ? "" : neu);
        }
        return words.toString();
    }

    /** Both SIDES as they would be typed. */
    static String text(LineScript script) {
        return side(script, 0) + ";" + side(script, 1);
    }

    static String side(LineScript script, int side) {
        StringBuilder lines = new StringBuilder();
        for (int line = 0; line < script.count(side); line++) {
            lines.append(line == 0 ? "" : ",");
            for (int letter = 1; letter <= script.line(side, line, 0); letter++) {
                lines.append((char) script.line(side, line, letter));
            }
        }
        return lines.toString();
    }
}
