/** Counts the answers that are not the ones that are due, and says them. */
final class Due {
    private static final int SAID = 40;
    private static int wrong = 0;
    private static int asked = 0;
    private static String about = "";

    private Due() {
    }

    /** What all that is asked from now on is about; it is said ahead of each wrong answer. */
    static void about(String what) {
        about = what;
    }

    static void due(String call, long got, long want) {
        asked++;
        if (got != want) {
            wrong++;
            if (wrong <= SAID) {
                System.out.println(about + call + " answered " + got + ", due is " + want);
            }
        }
    }

    static int wrongSoFar() {
        return wrong;
    }

    static int askedSoFar() {
        return asked;
    }

    static void end(String test) {
        System.out.println(test + ": " + asked + " answers, " + wrong + " not as due");
        if (wrong != 0 || asked == 0) {
            System.exit(1);
        }
    }
}
