/** Tells every answer that is not the one that is due. */
final class Due {
    private static int wrong = 0;
    private static int asked = 0;
    /** The sentence that the checks at hand are for, where a test names one. */
    private static String sentence = "";

    private Due() {
    }

    static void isFor(String words) {
        sentence = words.isEmpty() ? "" : "[" + words + "] ";
    }

    static void same(String call, long got, long want) {
        asked++;
        if (got != want) {
            wrong++;
            tell(call + " answered " + got + ", due is " + want);
        }
    }

    static void holds(String what, boolean right) {
        asked++;
        if (!right) {
            wrong++;
            tell("does not hold: " + what);
        }
    }

    private static void tell(String what) {
        if (wrong <= 50) {
            System.out.println(sentence + what);
        }
    }

    static int wrong() {
        return wrong;
    }

    static int asked() {
        return asked;
    }

    static void end() {
        System.out.println(asked + " asked, " + wrong + " wrong");
        if (wrong > 0) {
            System.exit(1);
        }
    }
}
