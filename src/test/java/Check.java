/** Counts answers that are not as due, prints them, and ends the test. */
final class Check {
    private static final int MOST_PRINTED = 40;
    private static int wrong = 0;

    private Check() {
    }

    static void due(String call, long want, long got) {
        if (got == want) {
            return;
        }
        wrong++;
        if (wrong <= MOST_PRINTED) {
            System.out.println(call + " answered " + got + ", due is " + want);
        }
    }

    static void dueText(String what, String want, String got) {
        if (!got.equals(want)) {
            wrong++;
            System.out.println(what + " is \"" + got + "\", due is \"" + want + "\"");
        }
    }

    static boolean failing() {
        return wrong > 0;
    }

    static void end() {
        if (wrong > 0) {
            System.out.println(wrong + " answers are not as due");
            System.exit(1);
        }
    }
}
