/** Counts answers that are not as due, prints them, and ends the test. */
final class Check {
    private static final int MOST_PRINTED = 40;
    private static int wrong = 0;
    private static String heading = "";

    private Check() {
    }

    /** The words of the document that the answers from here on belong to; printed with what is not as due. */
    static void sentence(String words) {
        heading = words + ": ";
    }

    static void due(String call, long want, long got) {
        if (got != want) {
            tell(call + " answered " + got + ", due is " + want);
        }
    }

    static void dueText(String what, String want, String got) {
        if (!got.equals(want)) {
            tell(what + " is \"" + got + "\", due is \"" + want + "\"");
        }
    }

    private static void tell(String fault) {
        wrong++;
        if (wrong <= MOST_PRINTED) {
            System.out.println(heading + fault);
        }
    }

    static boolean failing() {
        return wrong > 0;
    }

    static void end() {
        if (wrong > 0) {
            System.out.println(wrong + " answers are not as due");
            System.exit(1);
        }
    }
}
